section
-- ===== PART A: goes FIRST, ahead of the names: the tables' words, and 'selects' of the private methods out of them =====
/-- a private method of a class that the tables say can be made, by its rows of tables_1 -/
def lw_okq (q : MethodName × Nat) : Prop := (q.1.cls ≠ "java/lang/invoke/MethodHandle" ∧ q.1.cls ≠ "java/lang/invoke/VarHandle") ∧ Cond.instantiable q.1.cls q.2 ∈ tables_1 ∧ Cond.privateMethod q.1 ∈ tables_1 ∧ Cond.instanceMethod q.1 ∈ tables_1
theorem lw_p0 : lw_okq (⟨"java/lang/Throwable", "fillInStackTrace", "(I)Ljava/lang/Throwable;"⟩, 6) := ⟨⟨by decide +kernel, by decide +kernel⟩, List.mem_of_getElem? (i := 133) (by decide +kernel), List.mem_of_getElem? (i := 131) (by decide +kernel), List.mem_of_getElem? (i := 132) (by decide +kernel)⟩
theorem lw_p1 : lw_okq (⟨"StitchBanner", "bannerAt", "(I)LStitchBanner$Banner;"⟩, 4) := ⟨⟨by decide +kernel, by decide +kernel⟩, List.mem_of_getElem? (i := 15) (by decide +kernel), List.mem_of_getElem? (i := 288) (by decide +kernel), List.mem_of_getElem? (i := 289) (by decide +kernel)⟩
theorem lw_p2 : lw_okq (⟨"StitchBanner", "printerAt", "(I)LStitchBanner$Printer;"⟩, 4) := ⟨⟨by decide +kernel, by decide +kernel⟩, List.mem_of_getElem? (i := 15) (by decide +kernel), List.mem_of_getElem? (i := 370) (by decide +kernel), List.mem_of_getElem? (i := 371) (by decide +kernel)⟩
theorem lw_p3 : lw_okq (⟨"StitchBanner$Printer", "isBlocked", "(I)Z"⟩, 10) := ⟨⟨by decide +kernel, by decide +kernel⟩, List.mem_of_getElem? (i := 26) (by decide +kernel), List.mem_of_getElem? (i := 436) (by decide +kernel), List.mem_of_getElem? (i := 437) (by decide +kernel)⟩
theorem lw_p4 : lw_okq (⟨"StitchBanner$Printer", "doseHeldBack", "(I)I"⟩, 10) := ⟨⟨by decide +kernel, by decide +kernel⟩, List.mem_of_getElem? (i := 26) (by decide +kernel), List.mem_of_getElem? (i := 440) (by decide +kernel), List.mem_of_getElem? (i := 441) (by decide +kernel)⟩
theorem lw_p5 : lw_okq (⟨"StitchBanner$Printer", "doseOf", "(I)I"⟩, 10) := ⟨⟨by decide +kernel, by decide +kernel⟩, List.mem_of_getElem? (i := 26) (by decide +kernel), List.mem_of_getElem? (i := 444) (by decide +kernel), List.mem_of_getElem? (i := 445) (by decide +kernel)⟩
theorem lw_p6 : lw_okq (⟨"StitchBanner", "startIdlePrinters", "()V"⟩, 4) := ⟨⟨by decide +kernel, by decide +kernel⟩, List.mem_of_getElem? (i := 15) (by decide +kernel), List.mem_of_getElem? (i := 465) (by decide +kernel), List.mem_of_getElem? (i := 466) (by decide +kernel)⟩
theorem lw_p7 : lw_okq (⟨"StitchBanner", "takeFirstWaiting", "(LStitchBanner$Printer;I)V"⟩, 4) := ⟨⟨by decide +kernel, by decide +kernel⟩, List.mem_of_getElem? (i := 15) (by decide +kernel), List.mem_of_getElem? (i := 469) (by decide +kernel), List.mem_of_getElem? (i := 470) (by decide +kernel)⟩
theorem lw_p8 : lw_okq (⟨"StitchBanner", "endTick", "()I"⟩, 4) := ⟨⟨by decide +kernel, by decide +kernel⟩, List.mem_of_getElem? (i := 15) (by decide +kernel), List.mem_of_getElem? (i := 481) (by decide +kernel), List.mem_of_getElem? (i := 482) (by decide +kernel)⟩
theorem lw_p9 : lw_okq (⟨"StitchBanner$Printer", "layStrip", "(LStitchBanner$Banner;LStitchBanner$Strip;)I"⟩, 10) := ⟨⟨by decide +kernel, by decide +kernel⟩, List.mem_of_getElem? (i := 26) (by decide +kernel), List.mem_of_getElem? (i := 489) (by decide +kernel), List.mem_of_getElem? (i := 490) (by decide +kernel)⟩
theorem lw_p10 : lw_okq (⟨"StitchBanner$Banner", "errorAt", "(II)I"⟩, 8) := ⟨⟨by decide +kernel, by decide +kernel⟩, List.mem_of_getElem? (i := 182) (by decide +kernel), List.mem_of_getElem? (i := 565) (by decide +kernel), List.mem_of_getElem? (i := 566) (by decide +kernel)⟩
theorem lw_p11 : lw_okq (⟨"StitchBannerModel", "fails", "(I)Z"⟩, 20) := ⟨⟨by decide +kernel, by decide +kernel⟩, List.mem_of_getElem? (i := 584) (by decide +kernel), List.mem_of_getElem? (i := 662) (by decide +kernel), List.mem_of_getElem? (i := 663) (by decide +kernel)⟩
theorem lw_p12 : lw_okq (⟨"StitchBannerModel", "isDot", "(III)Z"⟩, 20) := ⟨⟨by decide +kernel, by decide +kernel⟩, List.mem_of_getElem? (i := 584) (by decide +kernel), List.mem_of_getElem? (i := 670) (by decide +kernel), List.mem_of_getElem? (i := 671) (by decide +kernel)⟩
theorem lw_p13 : lw_okq (⟨"StitchBannerModel", "isBanner", "(I)Z"⟩, 20) := ⟨⟨by decide +kernel, by decide +kernel⟩, List.mem_of_getElem? (i := 584) (by decide +kernel), List.mem_of_getElem? (i := 674) (by decide +kernel), List.mem_of_getElem? (i := 675) (by decide +kernel)⟩
theorem lw_p14 : lw_okq (⟨"StitchBannerModel", "stripsOf", "(I)I"⟩, 20) := ⟨⟨by decide +kernel, by decide +kernel⟩, List.mem_of_getElem? (i := 584) (by decide +kernel), List.mem_of_getElem? (i := 688) (by decide +kernel), List.mem_of_getElem? (i := 689) (by decide +kernel)⟩
theorem lw_p15 : lw_okq (⟨"StitchBannerModel", "end", "(II)I"⟩, 20) := ⟨⟨by decide +kernel, by decide +kernel⟩, List.mem_of_getElem? (i := 584) (by decide +kernel), List.mem_of_getElem? (i := 692) (by decide +kernel), List.mem_of_getElem? (i := 693) (by decide +kernel)⟩
def lw_privs_1 : List (MethodName × Nat) := [(⟨"java/lang/Throwable", "fillInStackTrace", "(I)Ljava/lang/Throwable;"⟩, 6), (⟨"StitchBanner", "bannerAt", "(I)LStitchBanner$Banner;"⟩, 4), (⟨"StitchBanner", "printerAt", "(I)LStitchBanner$Printer;"⟩, 4), (⟨"StitchBanner$Printer", "isBlocked", "(I)Z"⟩, 10), (⟨"StitchBanner$Printer", "doseHeldBack", "(I)I"⟩, 10), (⟨"StitchBanner$Printer", "doseOf", "(I)I"⟩, 10), (⟨"StitchBanner", "startIdlePrinters", "()V"⟩, 4), (⟨"StitchBanner", "takeFirstWaiting", "(LStitchBanner$Printer;I)V"⟩, 4), (⟨"StitchBanner", "endTick", "()I"⟩, 4), (⟨"StitchBanner$Printer", "layStrip", "(LStitchBanner$Banner;LStitchBanner$Strip;)I"⟩, 10), (⟨"StitchBanner$Banner", "errorAt", "(II)I"⟩, 8), (⟨"StitchBannerModel", "fails", "(I)Z"⟩, 20), (⟨"StitchBannerModel", "isDot", "(III)Z"⟩, 20), (⟨"StitchBannerModel", "isBanner", "(I)Z"⟩, 20), (⟨"StitchBannerModel", "stripsOf", "(I)I"⟩, 20), (⟨"StitchBannerModel", "end", "(II)I"⟩, 20)]
theorem lw_r1 : ∀ q ∈ lw_privs_1, lw_okq q := List.forall_mem_cons.mpr ⟨lw_p0, List.forall_mem_cons.mpr ⟨lw_p1, List.forall_mem_cons.mpr ⟨lw_p2, List.forall_mem_cons.mpr ⟨lw_p3, List.forall_mem_cons.mpr ⟨lw_p4, List.forall_mem_cons.mpr ⟨lw_p5, List.forall_mem_cons.mpr ⟨lw_p6, List.forall_mem_cons.mpr ⟨lw_p7, List.forall_mem_cons.mpr ⟨lw_p8, List.forall_mem_cons.mpr ⟨lw_p9, List.forall_mem_cons.mpr ⟨lw_p10, List.forall_mem_cons.mpr ⟨lw_p11, List.forall_mem_cons.mpr ⟨lw_p12, List.forall_mem_cons.mpr ⟨lw_p13, List.forall_mem_cons.mpr ⟨lw_p14, List.forall_mem_cons.mpr ⟨lw_p15, fun _ h => absurd h List.not_mem_nil⟩⟩⟩⟩⟩⟩⟩⟩⟩⟩⟩⟩⟩⟩⟩⟩
theorem lw_p16 : lw_okq (⟨"StitchBannerModel", "first", "(II)I"⟩, 20) := ⟨⟨by decide +kernel, by decide +kernel⟩, List.mem_of_getElem? (i := 584) (by decide +kernel), List.mem_of_getElem? (i := 696) (by decide +kernel), List.mem_of_getElem? (i := 697) (by decide +kernel)⟩
theorem lw_p17 : lw_okq (⟨"StitchBannerModel", "isStrip", "(II)Z"⟩, 20) := ⟨⟨by decide +kernel, by decide +kernel⟩, List.mem_of_getElem? (i := 584) (by decide +kernel), List.mem_of_getElem? (i := 704) (by decide +kernel), List.mem_of_getElem? (i := 705) (by decide +kernel)⟩
theorem lw_p18 : lw_okq (⟨"StitchBannerModel", "lays", "(IIII)I"⟩, 20) := ⟨⟨by decide +kernel, by decide +kernel⟩, List.mem_of_getElem? (i := 584) (by decide +kernel), List.mem_of_getElem? (i := 708) (by decide +kernel), List.mem_of_getElem? (i := 709) (by decide +kernel)⟩
theorem lw_p19 : lw_okq (⟨"StitchBannerModel", "has", "(III)Z"⟩, 20) := ⟨⟨by decide +kernel, by decide +kernel⟩, List.mem_of_getElem? (i := 584) (by decide +kernel), List.mem_of_getElem? (i := 712) (by decide +kernel), List.mem_of_getElem? (i := 713) (by decide +kernel)⟩
theorem lw_p20 : lw_okq (⟨"StitchBannerModel", "blocked", "(I)I"⟩, 20) := ⟨⟨by decide +kernel, by decide +kernel⟩, List.mem_of_getElem? (i := 584) (by decide +kernel), List.mem_of_getElem? (i := 731) (by decide +kernel), List.mem_of_getElem? (i := 732) (by decide +kernel)⟩
theorem lw_p21 : lw_okq (⟨"StitchBannerModel", "wants", "(III)V"⟩, 20) := ⟨⟨by decide +kernel, by decide +kernel⟩, List.mem_of_getElem? (i := 584) (by decide +kernel), List.mem_of_getElem? (i := 743) (by decide +kernel), List.mem_of_getElem? (i := 744) (by decide +kernel)⟩
theorem lw_p22 : lw_okq (⟨"StitchBannerModel", "nozzle", "(II)I"⟩, 20) := ⟨⟨by decide +kernel, by decide +kernel⟩, List.mem_of_getElem? (i := 584) (by decide +kernel), List.mem_of_getElem? (i := 747) (by decide +kernel), List.mem_of_getElem? (i := 748) (by decide +kernel)⟩
theorem lw_p23 : lw_okq (⟨"StitchBannerModel", "isOff", "(II)Z"⟩, 20) := ⟨⟨by decide +kernel, by decide +kernel⟩, List.mem_of_getElem? (i := 584) (by decide +kernel), List.mem_of_getElem? (i := 751) (by decide +kernel), List.mem_of_getElem? (i := 752) (by decide +kernel)⟩
theorem lw_p24 : lw_okq (⟨"StitchBannerModel", "isPrinting", "(I)Z"⟩, 20) := ⟨⟨by decide +kernel, by decide +kernel⟩, List.mem_of_getElem? (i := 584) (by decide +kernel), List.mem_of_getElem? (i := 759) (by decide +kernel), List.mem_of_getElem? (i := 760) (by decide +kernel)⟩
theorem lw_p25 : lw_okq (⟨"StitchBannerModel", "goesOn", "()I"⟩, 20) := ⟨⟨by decide +kernel, by decide +kernel⟩, List.mem_of_getElem? (i := 584) (by decide +kernel), List.mem_of_getElem? (i := 767) (by decide +kernel), List.mem_of_getElem? (i := 768) (by decide +kernel)⟩
theorem lw_p26 : lw_okq (⟨"StitchBannerModel", "takes", "(I)V"⟩, 20) := ⟨⟨by decide +kernel, by decide +kernel⟩, List.mem_of_getElem? (i := 584) (by decide +kernel), List.mem_of_getElem? (i := 771) (by decide +kernel), List.mem_of_getElem? (i := 772) (by decide +kernel)⟩
theorem lw_p27 : lw_okq (⟨"StitchBannerModel", "finishes", "(I)V"⟩, 20) := ⟨⟨by decide +kernel, by decide +kernel⟩, List.mem_of_getElem? (i := 584) (by decide +kernel), List.mem_of_getElem? (i := 775) (by decide +kernel), List.mem_of_getElem? (i := 776) (by decide +kernel)⟩
theorem lw_p28 : lw_okq (⟨"StitchBannerModel", "place", "(IIII)I"⟩, 20) := ⟨⟨by decide +kernel, by decide +kernel⟩, List.mem_of_getElem? (i := 584) (by decide +kernel), List.mem_of_getElem? (i := 779) (by decide +kernel), List.mem_of_getElem? (i := 780) (by decide +kernel)⟩
theorem lw_p29 : lw_okq (⟨"StitchBannerModel", "inkOf", "(III)I"⟩, 20) := ⟨⟨by decide +kernel, by decide +kernel⟩, List.mem_of_getElem? (i := 584) (by decide +kernel), List.mem_of_getElem? (i := 795) (by decide +kernel), List.mem_of_getElem? (i := 796) (by decide +kernel)⟩
theorem lw_p30 : lw_okq (⟨"StitchBannerModel", "all", "(III)I"⟩, 20) := ⟨⟨by decide +kernel, by decide +kernel⟩, List.mem_of_getElem? (i := 584) (by decide +kernel), List.mem_of_getElem? (i := 799) (by decide +kernel), List.mem_of_getElem? (i := 800) (by decide +kernel)⟩
theorem lw_p31 : lw_okq (⟨"StitchBannerModel", "error", "(III)I"⟩, 20) := ⟨⟨by decide +kernel, by decide +kernel⟩, List.mem_of_getElem? (i := 584) (by decide +kernel), List.mem_of_getElem? (i := 815) (by decide +kernel), List.mem_of_getElem? (i := 816) (by decide +kernel)⟩
def lw_privs_2 : List (MethodName × Nat) := [(⟨"StitchBannerModel", "first", "(II)I"⟩, 20), (⟨"StitchBannerModel", "isStrip", "(II)Z"⟩, 20), (⟨"StitchBannerModel", "lays", "(IIII)I"⟩, 20), (⟨"StitchBannerModel", "has", "(III)Z"⟩, 20), (⟨"StitchBannerModel", "blocked", "(I)I"⟩, 20), (⟨"StitchBannerModel", "wants", "(III)V"⟩, 20), (⟨"StitchBannerModel", "nozzle", "(II)I"⟩, 20), (⟨"StitchBannerModel", "isOff", "(II)Z"⟩, 20), (⟨"StitchBannerModel", "isPrinting", "(I)Z"⟩, 20), (⟨"StitchBannerModel", "goesOn", "()I"⟩, 20), (⟨"StitchBannerModel", "takes", "(I)V"⟩, 20), (⟨"StitchBannerModel", "finishes", "(I)V"⟩, 20), (⟨"StitchBannerModel", "place", "(IIII)I"⟩, 20), (⟨"StitchBannerModel", "inkOf", "(III)I"⟩, 20), (⟨"StitchBannerModel", "all", "(III)I"⟩, 20), (⟨"StitchBannerModel", "error", "(III)I"⟩, 20)]
theorem lw_r2 : ∀ q ∈ lw_privs_2, lw_okq q := List.forall_mem_cons.mpr ⟨lw_p16, List.forall_mem_cons.mpr ⟨lw_p17, List.forall_mem_cons.mpr ⟨lw_p18, List.forall_mem_cons.mpr ⟨lw_p19, List.forall_mem_cons.mpr ⟨lw_p20, List.forall_mem_cons.mpr ⟨lw_p21, List.forall_mem_cons.mpr ⟨lw_p22, List.forall_mem_cons.mpr ⟨lw_p23, List.forall_mem_cons.mpr ⟨lw_p24, List.forall_mem_cons.mpr ⟨lw_p25, List.forall_mem_cons.mpr ⟨lw_p26, List.forall_mem_cons.mpr ⟨lw_p27, List.forall_mem_cons.mpr ⟨lw_p28, List.forall_mem_cons.mpr ⟨lw_p29, List.forall_mem_cons.mpr ⟨lw_p30, List.forall_mem_cons.mpr ⟨lw_p31, fun _ h => absurd h List.not_mem_nil⟩⟩⟩⟩⟩⟩⟩⟩⟩⟩⟩⟩⟩⟩⟩⟩
def lw_privs : List (MethodName × Nat) := lw_privs_1 ++ (lw_privs_2)
def lw_tbl : List Cond := k2_sels lw_privs ++ tables_1
theorem lw_privs_ok : ∀ q ∈ lw_privs, lw_okq q := by
  show ∀ q ∈ lw_privs_1 ++ (lw_privs_2), lw_okq q
  exact List.forall_mem_append.mpr ⟨lw_r1, lw_r2⟩
/-- the streams that the claim lets the run draw from -/
abbrev lw_cs : List Choice := [Jvm.Choice.named "NaN.bits"]
theorem lw_bits : nanBits ∈ lw_cs := by first | decide | exact List.mem_cons_self | simp [lw_cs, nanBits]
end
section
/-! ===== BEGIN words of one list among another's, by their places ===== -/
theorem goodIn_r {big : List Cond} (ws : List Cond) (ps : List Nat) (hp : ws = ps.filterMap (fun i => big[i]?)) (h : ws.all goodWord = true) : GoodIn big ws := by
  intro w hw
  have h1 := List.all_eq_true.mp h w hw
  rw [hp] at hw
  obtain ⟨i, -, hi⟩ := List.mem_filterMap.mp hw
  have hm : w ∈ big := by first | exact List.mem_of_getElem? hi | exact List.getElem?_mem hi
  exact ⟨hm, good_of_word h1⟩
theorem goodIn_app {big a b : List Cond} (ha : GoodIn big a) (hb : GoodIn big b) : GoodIn big (a ++ b) := fun w h => (List.mem_append.mp h).elim (ha w) (hb w)
theorem goodIn_ca {big a b : List Cond} {c : Cond} (ha : GoodIn big (c :: a)) (hb : GoodIn big b) : GoodIn big (c :: (a ++ b)) := fun w h => (List.mem_cons.mp h).elim (fun e => ha w (List.mem_cons.mpr (Or.inl e))) (fun h => (List.mem_append.mp h).elim (fun h => ha w (List.mem_cons.mpr (Or.inr h))) (hb w))
theorem goodIn_sub {big ws : List Cond} (hm : ∀ w ∈ ws, w ∈ big) (h : ws.all goodWord = true) : GoodIn big ws := fun w hw => ⟨hm w hw, good_of_word (List.all_eq_true.mp h w hw)⟩
/-! ===== END ===== -/

/-! ===== BEGIN exceptions that leave a method, and their catching by the caller (launches without stack traces) ===== -/
section VXA
/-! The laws vx_back, vx_callV, vx_callS, vx_callSW, vx_throw0, vx_throwS follow proofs of the library, with one case more: JvmDerived/Free/Laws.lean (Back.of_free), Shelf42/LK1.lean (callV, callS), Shelf/KitTraced.lean (throwNew0V, throwNewS). -/
/-- where a method has thrown q: the class by its name, the cell, what was written, the world -/
def vx_T (XC : String → State → State → Prop) (st : State) (q : Addr) (t : State) (mc ms : Nat) (free : Addr → Prop) : Prop :=
  ∃ (E : String) (ce : Cell) (L : List Loc), XC E st t ∧ t.heap[q]? = some ce ∧ ce.vm = .none ∧ st.vm.findClass E = some ce.cls ∧ st.WarmedH t.vm ∧ st.sameButNew ({ t with vm := st.vm } : State) L mc ms ∧ ∀ z ∈ L, free z.base
def vx_Q (Qc : Array Value → State → Outcome → State → Prop) (XC : String → State → State → Prop) (mc ms : Nat) (free : Addr → Prop) : Array Value → State → Outcome → State → Prop := fun a st o t =>
  (Qc a st o t ∧ ∃ L, FrameEnd st o t L mc ms ∧ ∀ q ∈ L, free q.base) ∨ ∃ q, o = .threw q ∧ vx_T XC st q t mc ms free
/-- a callee that returns or throws -/
def vx_Met (l : Launch) (y : MethodName) (ws : List Cond) (rm : Room) (Pc : Array Value → State → Prop) (Qc : Array Value → State → Outcome → State → Prop) (XC : String → State → State → Prop) (mc ms : Nat) (free : Addr → Prop) : Prop :=
  MetFree l y (headSpec ws rm) Pc (fun _ _ _ _ _ => True) (vx_Q Qc XC mc ms free)
def vx_Post (XC : String → State → State → Prop) (mc ms : Nat) (free : Addr → Prop) : Pt → Array Value → Addr → Pt → Prop := fun A a q B =>
  ∃ (g : JFrame) (mk : MethodId) (t : State) (L : List Loc) (E : String) (ce : Cell), B.U.heap = t.heap ∧ B.U.vm = t.vm ∧ XC E (A.U.calling g mk a) t ∧ t.heap[q]? = some ce ∧ ce.vm = .none ∧ A.U.vm.findClass E = some ce.cls ∧ B.locs = A.locs ++ L ∧ (∀ z ∈ L, free z.base) ∧ B.cells = A.cells + mc ∧ B.slots = A.slots + ms
def vx_Back (l : Launch) (R : Room) (p : Program) (e : Env) (below : List Frame) (s : State) (sargs : Array Value) (y : MethodName) (len W9 : Nat)
    (Pre : Pt → Array Value → Prop) (Post : Pt → Array Value → Option Value → Pt → Prop) (PostX : Pt → Array Value → Addr → Pt → Prop) : Prop :=
  ∀ (m : MethodId) (meth : Method) (c : Code) (A : Pt) (g : JFrame) (ig : Instr) (mk : MethodId) (a : Array Value),
    Stand p l e R s m sargs below meth c A.U A.locs A.cells A.slots → g.method = m → g.locals.size = c.maxLocals → decode c.code g.pc = .ok (ig, len) →
    2 * g.monitorRoom + (g.stack.map fun v => v.category).sum ≤ W9 → A.U.methodNamed? y = some mk → Pre A a →
    (∃ (v : Option Value) (B : Pt), Stand p l e R s m sargs below meth c B.U B.locs B.cells B.slots ∧ Post A a v B ∧
      Steps p.tables e below (doInvoke e (A.U.setTop g) [] mk a).1 (B.U.setTop { g with pc := g.pc + len, stack := v.toList ++ g.stack })) ∨
    (∃ (q : Addr) (B : Pt), Stand p l e R s m sargs below meth c B.U B.locs B.cells B.slots ∧ PostX A a q B ∧
      Steps p.tables e below (doInvoke e (A.U.setTop g) [] mk a).1 ((B.U.setTop g).pushFrame (.throwing q)))
section Payer
variable {l : Launch} {R : Room} {p : Program} {e : Env} {below : List Frame} {s : State} {sargs : Array Value} {y : MethodName} {len W9 : Nat}
theorem vx_back {ws : List Cond} {rm : Room} {Pc : Array Value → State → Prop} {Qc : Array Value → State → Outcome → State → Prop} {XC : String → State → State → Prop} {mc ms : Nat} {free : Addr → Prop} {bytes : ByteArray} {maxL : Nat} {ret : Option FieldType}
    (hM : vx_Met l y ws rm Pc Qc XC mc ms free) (hblind : FrameBlind Pc) (hrc : rm.cells = mc) (hrs : rm.slots = ms)
    (hframes : rm.frames + 1 ≤ R.frames) (hlocals : W9 + (maxL + 11) + rm.locals ≤ R.locals)
    (hws : ∀ w ∈ ws, ∀ a' U, s.WarmedH U.vm → w.before a' U = true) (hcode : Cond.code y bytes maxL ret ∈ ws) (hinit : ∀ a' U, s.WarmedH U.vm → (Cond.initialized y.cls).before a' U = true) :
    vx_Back l R p e below s sargs y len W9 (PreOf R mc ms Pc) (PostOf Qc mc ms free) (vx_Post XC mc ms free) := by
  intro m meth c A g ig mk a X hg hsize hdg hW hn hp
  have h1 : (headSpec ws rm).pre.before a A.U = true := atoms_intro fun w hw => hws w hw _ _ X.warmed
  have h2 : (Cond.code y bytes maxL ret).before a A.U = true := hws _ hcode _ _ X.warmed
  have h3 : (Cond.initialized y.cls).before a A.U = true := hinit _ _ X.warmed
  have h4 : A.cells + (headSpec ws rm).room.cells ≤ R.cells := by rw [show (headSpec ws rm).room.cells = mc from hrc]; exact hp.1
  have h5 : A.slots + (headSpec ws rm).room.slots ≤ R.slots := by rw [show (headSpec ws rm).room.slots = ms from hrs]; exact hp.2.1
  have hPc : Pc a (A.U.calling g mk a) := hblind _ _ _ _ hp.2.2
  obtain ⟨U, Ls, c0, s0⟩ := A
  dsimp only [Pt.U, Pt.locs, Pt.cells, Pt.slots] at h1 h2 h3 h4 h5 X hn hPc ⊢
  obtain ⟨methY, cY, hmY, hcY, -, hlY, -, -, -, -⟩ := Cond.code_spec hn h2
  obtain ⟨kY, hkY, -⟩ := className_of_methodNamed hn
  have hinitY : kY.init = .initialized := Cond.initialized_spec (findClass_of_methodNamed hn) hkY h3
  have h : At U g.method c below := by rw [hg]; exact X.here
  have hlocals9 : W9 + (maxL + 11) + (headSpec ws rm).room.locals ≤ R.locals := hlocals
  have happ : (headSpec ws rm).appliesLoose y e.platform (U.calling g mk a) = true :=
    Spec.appliesLoose_calling (g := g) h hdg hn hkY hinitY
      (X.room_calling (g := g) (R' := (headSpec ws rm).room) hsize hmY hcY hframes (by rw [hlY]; omega) h4 h5) h1
  obtain ⟨mid, hmid⟩ := h.above
  have hfr : (U.setTop g).frames = (.java g :: mid) ++ below := by rw [State.frames_setTop' g h.top, hmid]; rfl
  obtain ⟨o, s₂, hsteps, -, hend, hq⟩ := Steps.callFree hM p X.admits X.cas X.clock (acts := []) hfr happ hPc trivial
  have hq' : vx_Q Qc XC mc ms free a (U.calling g mk a) o s₂ := hq
  rw [State.frames_setTop' g h.top] at hend
  obtain ⟨g₀, hg0⟩ := Option.isSome_iff_exists.mp h.top
  obtain ⟨r, hr⟩ := State.topJava?_eq_some.mp hg0
  have hr' : (({ U with heap := s₂.heap, slotsUsed := s₂.slotsUsed } : State).setVm s₂.vm).frames = .java g₀ :: r := hr
  rcases hq' with ⟨hqc, L, hfe, hL⟩ | ⟨q, rfl, E, ce, L, hx, hce, hcv, hcl, hW₂, hsm, hL⟩
  · obtain ⟨⟨v, rfl⟩, hW₂, e2, q2, q3, q4, q5, q6⟩ := id hfe
    have e3 : s₂ = ({ (U.calling g mk a).setFrames s₂.frames with heap := s₂.heap, slotsUsed := s₂.slotsUsed } : State).setVm s₂.vm := by
      have : s₂ = ({ s₂ with vm := (U.calling g mk a).vm } : State).setVm s₂.vm := rfl
      rw [e2] at this
      exact this
    obtain ⟨c₂, i₂, len₂, hc₂, hd₂, hf₂⟩ := hend
    have hW' : U.WarmedH s₂.vm := hW₂
    have hcc : c₂ = c := by
      have h1 : s₂.code? g.method = U.code? g.method := by
        rw [State.code?_eq, State.code?_eq, hW'.alike.method?]
      exact Option.some.inj (hc₂.symm.trans (h1.trans h.code))
    subst hcc
    have hlen : len₂ = len := by rw [hdg] at hd₂; cases hd₂; rfl
    subst hlen
    have hs₂ : s₂ = (({ U with heap := s₂.heap, slotsUsed := s₂.slotsUsed } : State).setVm s₂.vm).setTop { g with pc := g.pc + len₂, stack := v.toList ++ g.stack } := by
      refine e3.trans ?_
      rw [hf₂, State.calling_eq h.top, State.setFrames_setFrames, State.setTop_of_frames _ hr', hr]
      rfl
    have hsame : U.sameButNew ({ U with heap := s₂.heap, slotsUsed := s₂.slotsUsed } : State) L mc ms := by
      refine ⟨?_, q2, q3, q4, q5, q6⟩
      obtain ⟨t, ht, -⟩ := State.frames_cons hr
      show ({ U with heap := s₂.heap, slotsUsed := s₂.slotsUsed } : State) = { U.setFrames U.frames with heap := s₂.heap, slotsUsed := s₂.slotsUsed }
      rw [State.setFrames_self ht]
    subst hg
    refine Or.inl ⟨v, ⟨(({ U with heap := s₂.heap, slotsUsed := s₂.slotsUsed } : State).setVm s₂.vm), Ls ++ L, c0 + mc, s0 + ms⟩,
      ⟨X.admits, X.cas, X.clock, X.frames, X.room, X.hears, X.method, X.code, (X.here.setHeapUsed s₂.heap s₂.slotsUsed).setVm hW'.alike, X.tail, State.WarmedH.trans X.warmed hW', X.limits, X.bytes, X.same.trans (hsame.setVm s.vm)⟩,
      ⟨g, mk, s₂, L, rfl, rfl, hqc, rfl, hL, rfl, rfl⟩, ?_⟩
    show Steps p.tables e below _ ((({ U with heap := s₂.heap, slotsUsed := s₂.slotsUsed } : State).setVm s₂.vm).setTop { g with pc := g.pc + len₂, stack := v.toList ++ g.stack })
    rw [← hs₂]
    exact hsteps
  · obtain ⟨e2, q2, q3, q4, q5, q6⟩ := id hsm
    have e3 : s₂ = ({ (U.calling g mk a).setFrames s₂.frames with heap := s₂.heap, slotsUsed := s₂.slotsUsed } : State).setVm s₂.vm := by
      have : s₂ = ({ s₂ with vm := (U.calling g mk a).vm } : State).setVm s₂.vm := rfl
      rw [e2] at this
      exact this
    have hf₂ : s₂.frames = .throwing q :: .java g :: U.frames.tail := hend
    have hW' : U.WarmedH s₂.vm := hW₂
    have hs₂ : s₂ = ((({ U with heap := s₂.heap, slotsUsed := s₂.slotsUsed } : State).setVm s₂.vm).setTop g).pushFrame (.throwing q) := by
      refine e3.trans ?_
      rw [hf₂, State.calling_eq h.top, State.setFrames_setFrames, State.pushFrame, State.frames_setTop _ hr', State.setTop_of_frames _ hr', State.setFrames_setFrames, hr]
      rfl
    have hsame : U.sameButNew ({ U with heap := s₂.heap, slotsUsed := s₂.slotsUsed } : State) L mc ms := by
      refine ⟨?_, q2, q3, q4, q5, q6⟩
      obtain ⟨t, ht, -⟩ := State.frames_cons hr
      show ({ U with heap := s₂.heap, slotsUsed := s₂.slotsUsed } : State) = { U.setFrames U.frames with heap := s₂.heap, slotsUsed := s₂.slotsUsed }
      rw [State.setFrames_self ht]
    subst hg
    refine Or.inr ⟨q, ⟨(({ U with heap := s₂.heap, slotsUsed := s₂.slotsUsed } : State).setVm s₂.vm), Ls ++ L, c0 + mc, s0 + ms⟩,
      ⟨X.admits, X.cas, X.clock, X.frames, X.room, X.hears, X.method, X.code, (X.here.setHeapUsed s₂.heap s₂.slotsUsed).setVm hW'.alike, X.tail, State.WarmedH.trans X.warmed hW', X.limits, X.bytes, X.same.trans (hsame.setVm s.vm)⟩,
      ⟨g, mk, s₂, L, E, ce, rfl, rfl, hx, hce, hcv, hcl, rfl, hL, rfl, rfl⟩, ?_⟩
    show Steps p.tables e below _ (((({ U with heap := s₂.heap, slotsUsed := s₂.slotsUsed } : State).setVm s₂.vm).setTop g).pushFrame (.throwing q))
    rw [← hs₂]
    exact hsteps
end Payer
section Calls
variable {p : Program} {l : Launch} {e : Env} {R : Room} {s : State} {m : MethodId} {args : Array Value} {below : List Frame} {meth : Method} {c : Code} {T : State} {locs : List Loc} {cells slots : Nat}
theorem vx_callV (X : Stand p l e R s m args below meth c T locs cells slots) (hexec : p.tables.exec = Jvm.exec) {own C : String} {index : Nat} {y : MethodName} {bytes : ByteArray} {maxL : Nat} {ret : Option FieldType}
    (hown : s.vm.findClass own = some m.cls) (hlink : (Cond.methodLink own index y).before args s = true) (hinst : (Cond.instanceMethod y).before args s = true) (hsel : (Cond.selects C y y).before args s = true)
    (hcode : (Cond.code y bytes maxL ret).before args s = true) (hy : y.cls ≠ "java/lang/invoke/MethodHandle" ∧ y.cls ≠ "java/lang/invoke/VarHandle")
    {W9 : Nat} {Pre : Pt → Array Value → Prop} {Post : Pt → Array Value → Option Value → Pt → Prop} {PostX : Pt → Array Value → Addr → Pt → Prop} (hK : vx_Back l R p e below s args y 3 W9 Pre Post PostX)
    {b : Addr} {cellB : Cell} (hcell : T.heap[b]? = some cellB) (hobj : cellB.vm.isStatics = false) (hcls : s.vm.findClass C = some cellB.cls)
    {g : JFrame} (hg : g.method = m) (hsize : g.locals.size = c.maxLocals) {argsL rest : List Value} (hlen : ∀ sig, parseMethodDescriptor y.desc = some sig → argsL.length = sig.parameters.length)
    (hstack : g.stack = argsL.reverse ++ .ref b :: rest) (hW : 2 * g.monitorRoom + (rest.map fun v => v.category).sum ≤ W9) (hdg : decode c.code g.pc = .ok (.invokevirtual index, 3))
    (hpre : ∀ vm₁, s.WarmedH vm₁ → Pre ⟨T.setVm vm₁, locs, cells, slots⟩ (Value.ref b :: argsL).toArray) :
    (∃ (v : Option Value) (vm₁ : Vm) (B : Pt), s.WarmedH vm₁ ∧ Stand p l e R s m args below meth c B.U B.locs B.cells B.slots ∧ Post ⟨T.setVm vm₁, locs, cells, slots⟩ (Value.ref b :: argsL).toArray v B ∧
      ∀ target, Steps p.tables e below (B.U.setTop { g with pc := g.pc + 3, stack := v.toList ++ rest }) target → Steps p.tables e below (T.setTop g) target) ∨
    (∃ (q : Addr) (vm₁ : Vm) (B : Pt), s.WarmedH vm₁ ∧ Stand p l e R s m args below meth c B.U B.locs B.cells B.slots ∧ PostX ⟨T.setVm vm₁, locs, cells, slots⟩ (Value.ref b :: argsL).toArray q B ∧
      Steps p.tables e below (T.setTop g) ((B.U.setTop { g with stack := rest }).pushFrame (.throwing q))) := by
  obtain ⟨mk, methM, hnamed, hmethM, hstM, habM⟩ := Cond.instanceMethod_spec hinst
  obtain ⟨methM', cM, hmethM', -, -, -, -, -, -, hsigM⟩ := Cond.code_spec hnamed hcode
  cases hmethM.symm.trans hmethM'
  obtain ⟨c2, r2, m2, q1, q2, q3, q4, kP, hkP, hkPi⟩ := Cond.selects_spec hsel
  cases hcls.symm.trans q1
  cases (State.methodFound?_of_named hnamed hy).symm.trans q2
  cases hnamed.symm.trans q3
  have hselP : selectMethod e.platform s.vm cellB.cls mk = .method mk := by rw [Launch.admits_selectMethod X.admits]; exact q4
  obtain ⟨vm₁, X₁, hstep₁⟩ := X.invokevirtual hexec hown hlink hnamed hmethM hstM hkP hkPi hy (a := b) (cell := cellB) hcell
    (fun z h => by rw [h] at hobj; cases hobj) hselP hmethM habM hkP hkPi (g := g) hg (argsL := argsL) (rest := rest) (hlen _ hsigM) hstack hdg
  rcases hK m meth c ⟨T.setVm vm₁, locs, cells, slots⟩ { g with stack := rest } (.invokevirtual index) mk (Value.ref b :: argsL).toArray X₁ hg hsize hdg hW (X₁.named hnamed) (hpre vm₁ X₁.warmed) with ⟨v, B, X', hpost, hsteps⟩ | ⟨q, B, X', hpost, hsteps⟩
  · exact Or.inl ⟨v, vm₁, B, X₁.warmed, X', hpost, fun target h => hstep₁ _ fun acts => by rw [doInvoke_state]; exact hsteps.trans h⟩
  · exact Or.inr ⟨q, vm₁, B, X₁.warmed, X', hpost, hstep₁ _ fun acts => by rw [doInvoke_state]; exact hsteps⟩
theorem vx_callS (X : Stand p l e R s m args below meth c T locs cells slots) (hexec : p.tables.exec = Jvm.exec) {own : String} {index : Nat} {y : MethodName} {bytes : ByteArray} {maxL : Nat} {ret : Option FieldType}
    (hown : s.vm.findClass own = some m.cls) (hlink : (Cond.methodLink own index y).before args s = true) (hstat : (Cond.static y).before args s = true) (hinit : (Cond.initialized y.cls).before args s = true)
    (hcode : (Cond.code y bytes maxL ret).before args s = true) (hy : y.cls ≠ "java/lang/invoke/MethodHandle" ∧ y.cls ≠ "java/lang/invoke/VarHandle")
    {W9 : Nat} {Pre : Pt → Array Value → Prop} {Post : Pt → Array Value → Option Value → Pt → Prop} {PostX : Pt → Array Value → Addr → Pt → Prop} (hK : vx_Back l R p e below s args y 3 W9 Pre Post PostX)
    {g : JFrame} (hg : g.method = m) (hsize : g.locals.size = c.maxLocals) {argsL rest : List Value} (hlen : ∀ sig, parseMethodDescriptor y.desc = some sig → argsL.length = sig.parameters.length)
    (hstack : g.stack = argsL.reverse ++ rest) (hW : 2 * g.monitorRoom + (rest.map fun v => v.category).sum ≤ W9) (hdg : decode c.code g.pc = .ok (.invokestatic index, 3))
    (hpre : ∀ vm₁, s.WarmedH vm₁ → Pre ⟨T.setVm vm₁, locs, cells, slots⟩ argsL.toArray) :
    (∃ (v : Option Value) (vm₁ : Vm) (B : Pt), s.WarmedH vm₁ ∧ Stand p l e R s m args below meth c B.U B.locs B.cells B.slots ∧ Post ⟨T.setVm vm₁, locs, cells, slots⟩ argsL.toArray v B ∧
      ∀ target, Steps p.tables e below (B.U.setTop { g with pc := g.pc + 3, stack := v.toList ++ rest }) target → Steps p.tables e below (T.setTop g) target) ∨
    (∃ (q : Addr) (vm₁ : Vm) (B : Pt), s.WarmedH vm₁ ∧ Stand p l e R s m args below meth c B.U B.locs B.cells B.slots ∧ PostX ⟨T.setVm vm₁, locs, cells, slots⟩ argsL.toArray q B ∧
      Steps p.tables e below (T.setTop g) ((B.U.setTop { g with stack := rest }).pushFrame (.throwing q))) := by
  obtain ⟨mk, hnamed⟩ := Cond.code_named hcode
  obtain ⟨methM, cM, hmethM, -, -, -, -, -, -, hsigM⟩ := Cond.code_spec hnamed hcode
  have hstatic : methM.isStatic = true := Cond.static_spec hnamed hmethM hstat
  obtain ⟨kP, hkP, -⟩ := className_of_methodNamed hnamed
  have hinitP : kP.init = .initialized := Cond.initialized_spec (findClass_of_methodNamed hnamed) hkP hinit
  obtain ⟨vm₁, X₁, hstep₁⟩ := X.invokestatic hexec hown hlink hnamed hmethM hstatic hkP hinitP hy (g := g) hg (argsL := argsL) (rest := rest) (hlen _ hsigM) hstack hdg
  rcases hK m meth c ⟨T.setVm vm₁, locs, cells, slots⟩ { g with stack := rest } (.invokestatic index) mk argsL.toArray X₁ hg hsize hdg hW (X₁.named hnamed) (hpre vm₁ X₁.warmed) with ⟨v, B, X', hpost, hsteps⟩ | ⟨q, B, X', hpost, hsteps⟩
  · exact Or.inl ⟨v, vm₁, B, X₁.warmed, X', hpost, fun target h => hstep₁ _ fun acts => by rw [doInvoke_state]; exact hsteps.trans h⟩
  · exact Or.inr ⟨q, vm₁, B, X₁.warmed, X', hpost, hstep₁ _ fun acts => by rw [doInvoke_state]; exact hsteps⟩
end Calls
theorem vx_cls {s : State} {T : State} {vm₁ : Vm} {E : String} {k : ClassId} (hW : s.WarmedH vm₁) (h : (T.setVm vm₁).vm.findClass E = some k) : s.vm.findClass E = some k := by
  have h1 : vm₁.findClass E = some k := h
  rw [hW.alike.findClass] at h1
  exact h1
/-- the method's frame g, with q thrown over it -/
def vx_W (p : Program) (l : Launch) (e : Env) (R : Room) (s : State) (m : MethodId) (args : Array Value) (below : List Frame) (meth : Method) (c : Code) (H : Heap) (locs : List Loc) (cells slots : Nat) (Q : State → Prop) (g : JFrame) (q : Addr) : Prop :=
  ∀ T : State, T.heap = H → Stand p l e R s m args below meth c T locs cells slots → ∃ t, Steps p.tables e below ((T.setTop g).pushFrame (.throwing q)) t ∧ Q t
def vx_Run (p : Program) (l : Launch) (e : Env) (R : Room) (s : State) (m : MethodId) (args : Array Value) (below : List Frame) (meth : Method) (c : Code) (H : Heap) (locs : List Loc) (cells slots mc ms : Nat) (g : JFrame) (rest : List Value) (Qa : State → Outcome → State → Prop) (XC : String → State → State → Prop) (free : Addr → Prop) : Prop :=
  ∀ T : State, T.heap = H → Stand p l e R s m args below meth c T locs cells slots →
    (∃ (v : Option Value) (st₀ t T' : State) (L : List Loc), st₀.heap = H ∧ Stand p l e R s m args below meth c T' (locs ++ L) (cells + mc) (slots + ms) ∧ (∀ q ∈ L, free q.base) ∧ T'.heap = t.heap ∧ T'.vm = t.vm ∧ Qa st₀ (.returned v) t ∧
      Goes p e below T g T' { g with pc := g.pc + 3, stack := v.toList ++ rest }) ∨
    (∃ (q : Addr) (st₀ t T' : State) (L : List Loc) (E : String) (ce : Cell), st₀.heap = H ∧ Stand p l e R s m args below meth c T' (locs ++ L) (cells + mc) (slots + ms) ∧ (∀ z ∈ L, free z.base) ∧ T'.heap = t.heap ∧ T'.vm = t.vm ∧ XC E st₀ t ∧ t.heap[q]? = some ce ∧ ce.vm = .none ∧ s.vm.findClass E = some ce.cls ∧
      Steps p.tables e below (T.setTop g) ((T'.setTop { g with stack := rest }).pushFrame (.throwing q)))
def vx_X {S : Type} (px : S → Prop) (B : String → S → State → Prop) (A : Nat → Prop) : String → State → State → Prop := fun E st t => ∃ u : S, px u ∧ B E u t ∧ va_F A st t
section Runs
variable {p : Program} {l : Launch} {e : Env} {R : Room} {s : State} {m : MethodId} {args : Array Value} {below : List Frame} {meth : Method} {c : Code} {H : Heap} {locs : List Loc} {cells slots : Nat}
variable {y : MethodName} {bytes cc : ByteArray} {maxL nL mc ms n index : Nat} {ret : Option FieldType} {ws : List Cond} {rm : Room} {Pc : Array Value → State → Prop} {Qc : Array Value → State → Outcome → State → Prop} {XC : String → State → State → Prop} {free : Addr → Prop} {Ts : List Cond} {own C : String} {b : Addr} {As rest : List Value} {g : JFrame}
theorem vx_callBack (cb : CallB R s args own index y bytes maxL ret ws rm mc ms n) (hM : vx_Met l y ws rm Pc Qc XC mc ms free) (hbl : FrameBlind Pc) : vx_Back l R p e below s args y 3 8 (PreOf R mc ms Pc) (PostOf Qc mc ms free) (vx_Post XC mc ms free) := by
  obtain ⟨hrc, hrs, hfr, hlo, hws, hcw, -, hini, -⟩ := cb
  exact vx_back (bytes := bytes) (maxL := maxL) (ret := ret) hM hbl hrc hrs hfr hlo hws hcw (fun a' U hW => word_at hW (Or.inl (by first | rfl | simp [Cond.onTables, Cond.keeps, Cond.steady])) hini)
theorem vx_runV (S : CallFix p m c cc nL s args Ts own) (hM : vx_Met l y ws rm Pc Qc XC mc ms free) (cw : CallW R s args own C index y bytes maxL ret ws rm mc ms n) (hp : PreV s H C b Pc As)
    (hg : g.method = m) (hn : As.length = n) (hsize : g.locals.size = nL) (hstack : g.stack = As.reverse ++ .ref b :: rest) (hW : 2 * g.monitorRoom + (rest.map fun v => v.category).sum ≤ 8) (hdg : decode cc g.pc = .ok (.invokevirtual index, 3)) (hf : cells + mc ≤ R.cells ∧ slots + ms ≤ R.slots) :
    vx_Run p l e R s m args below meth c H locs cells slots mc ms g rest (Qc (Value.ref b :: As).toArray) XC free := by
  have hK : vx_Back l R p e below s args y 3 8 (PreOf R mc ms Pc) (PostOf Qc mc ms free) (vx_Post XC mc ms free) := vx_callBack cw.1 hM hp.1
  obtain ⟨⟨-, -, -, -, -, -, hcode, -, hy, hlen, hl⟩, hin, hse⟩ := cw
  obtain ⟨hx, hb, hml, ho, -⟩ := S
  obtain ⟨-, ⟨cellB, hcB, hoB, hclB⟩, hPc⟩ := hp
  intro T hT X
  rcases vx_callV X hx (C := C) (bytes := bytes) (maxL := maxL) (ret := ret) ho hl hin hse hcode hy hK (by rw [hT]; exact hcB) hoB hclB hg (hsize.trans hml.symm) (argsL := As) (rest := rest) (fun sig h => hn.trans (hlen sig h)) hstack hW (by rw [hb]; exact hdg)
    (fun vm₁ hW₁ => ⟨hf.1, hf.2, hPc (T.setVm vm₁) hT hW₁⟩) with ⟨v, vm₁, ⟨U', l2, c2, s2⟩, hW₁, X', ⟨g', mk, t, L, e1, e2, hq, h1, hL, h2, h3⟩, st⟩ | ⟨q, vm₁, ⟨U', l2, c2, s2⟩, hW₁, X', ⟨g', mk, t, L, E, ce, e1, e2, hq, hce, hcv, hcl, h1, hL, h2, h3⟩, st⟩
  · dsimp only [Pt.U, Pt.locs, Pt.cells, Pt.slots] at X' e1 e2 h1 h2 h3 st
    subst h1; subst h2; subst h3
    exact Or.inl ⟨v, (T.setVm vm₁).calling g' mk (Value.ref b :: As).toArray, t, U', L, hT, X', hL, e1, e2, hq, st⟩
  · dsimp only [Pt.U, Pt.locs, Pt.cells, Pt.slots] at X' e1 e2 h1 h2 h3 st hcl
    subst h1; subst h2; subst h3
    exact Or.inr ⟨q, (T.setVm vm₁).calling g' mk (Value.ref b :: As).toArray, t, U', L, E, ce, hT, X', hL, e1, e2, hq, hce, hcv, vx_cls hW₁ hcl, st⟩
theorem vx_runS (S : CallFix p m c cc nL s args Ts own) (hM : vx_Met l y ws rm Pc Qc XC mc ms free) (cw : CallB R s args own index y bytes maxL ret ws rm mc ms n ∧ (Cond.static y).before args s = true) (hp : PreS s H Pc As)
    (hg : g.method = m) (hn : As.length = n) (hsize : g.locals.size = nL) (hstack : g.stack = As.reverse ++ rest) (hW : 2 * g.monitorRoom + (rest.map fun v => v.category).sum ≤ 8) (hdg : decode cc g.pc = .ok (.invokestatic index, 3)) (hf : cells + mc ≤ R.cells ∧ slots + ms ≤ R.slots) :
    vx_Run p l e R s m args below meth c H locs cells slots mc ms g rest (Qc As.toArray) XC free := by
  have hK : vx_Back l R p e below s args y 3 8 (PreOf R mc ms Pc) (PostOf Qc mc ms free) (vx_Post XC mc ms free) := vx_callBack cw.1 hM hp.1
  obtain ⟨⟨-, -, -, -, -, -, hcode, hini, hy, hlen, hl⟩, hstt⟩ := cw
  obtain ⟨hx, hb, hml, ho, -⟩ := S
  intro T hT X
  rcases vx_callS X hx (bytes := bytes) (maxL := maxL) (ret := ret) ho hl hstt hini hcode hy hK hg (hsize.trans hml.symm) (argsL := As) (rest := rest) (fun sig h => hn.trans (hlen sig h)) hstack hW (by rw [hb]; exact hdg)
    (fun vm₁ hW₁ => ⟨hf.1, hf.2, hp.2 (T.setVm vm₁) hT hW₁⟩) with ⟨v, vm₁, ⟨U', l2, c2, s2⟩, hW₁, X', ⟨g', mk, t, L, e1, e2, hq, h1, hL, h2, h3⟩, st⟩ | ⟨q, vm₁, ⟨U', l2, c2, s2⟩, hW₁, X', ⟨g', mk, t, L, E, ce, e1, e2, hq, hce, hcv, hcl, h1, hL, h2, h3⟩, st⟩
  · dsimp only [Pt.U, Pt.locs, Pt.cells, Pt.slots] at X' e1 e2 h1 h2 h3 st
    subst h1; subst h2; subst h3
    exact Or.inl ⟨v, (T.setVm vm₁).calling g' mk As.toArray, t, U', L, hT, X', hL, e1, e2, hq, st⟩
  · dsimp only [Pt.U, Pt.locs, Pt.cells, Pt.slots] at X' e1 e2 h1 h2 h3 st hcl
    subst h1; subst h2; subst h3
    exact Or.inr ⟨q, (T.setVm vm₁).calling g' mk As.toArray, t, U', L, E, ce, hT, X', hL, e1, e2, hq, hce, hcv, vx_cls hW₁ hcl, st⟩
end Runs
section Rows
variable {p : Program} {l : Launch} {e : Env} {R : Room} {s : State} {m : MethodId} {args : Array Value} {below : List Frame} {meth : Method} {c : Code} {H : Heap} {locs : List Loc} {cells slots : Nat} {Q : State → Prop}
variable {mc ms : Nat} {free : Addr → Prop} {A0 A1 : Nat → Prop} {H0 : Heap} {a : Array Value} {pc : Nat} {ls : Array Slot} {st0 rest : List Value}
theorem vx_keep {st₀ t T' : State} {L : List Loc} (h0 : st₀.heap = H) (e1 : T'.heap = t.heap) (hS : va_S A0 H0 H locs) (hA : ∀ q, q < H.size → A1 q → A0 q) (hf : ∀ q, free q → A0 q) (hL : ∀ q ∈ L, free q.base) (hF : va_F A1 st₀ t) :
    H.size ≤ T'.heap.size ∧ (∀ q : Nat, q < H.size → ¬ A1 q → T'.heap[q]? = H[q]?) ∧ va_S A0 H0 T'.heap (locs ++ L) := by
  obtain ⟨hz, hk⟩ := hF
  rw [h0] at hz hk
  exact ⟨by rw [e1]; exact hz, fun q h1 h2 => by rw [e1]; exact hk q h1 h2,
    ⟨Nat.le_trans hS.1 (by rw [e1]; exact hz), fun q h1 h2 => by rw [e1, hk q (Nat.lt_of_lt_of_le h1 hS.1) (fun z => h2 (hA q (Nat.lt_of_lt_of_le h1 hS.1) z))]; exact hS.2.1 q h1 h2, fun q hq => by
      rcases List.mem_append.mp hq with h | h
      · exact hS.2.2 q h
      · exact hf _ (hL q h)⟩⟩
theorem vx_calli {S SX : Type} {post : Int32 → S → Prop} {px : SX → Prop} {B : S → State → Prop} {BX : String → SX → State → Prop} {AX : Nat → Prop} (hr : vx_Run p l e R s m args below meth c H locs cells slots mc ms (F0 m pc ls st0) rest (va_Qi post B A1 a) (vx_X px BX AX) free) (hS : va_S A0 H0 H locs) (hA : ∀ q, q < H.size → A1 q → A0 q) (hf : ∀ q, free q → A0 q) (hAX : ∀ q, q < H.size → AX q → A0 q)
    (kx : ∀ (E : String) (ce : Cell) (q9 : Addr) (u : SX) (t : State) (H1 : Heap) (locs1 : List Loc), t.heap = H1 → s.vm.Alike t.vm → px u → BX E u t → H.size ≤ H1.size → (∀ q : Nat, q < H.size → ¬ AX q → H1[q]? = H[q]?) → va_S A0 H0 H1 locs1 → H1[q9]? = some ce → ce.vm = .none → s.vm.findClass E = some ce.cls → vx_W p l e R s m args below meth c H1 locs1 (cells + mc) (slots + ms) Q (F0 m pc ls rest) q9)
    (kk : ∀ (r : Int32) (u : S) (t : State) (H1 : Heap) (locs1 : List Loc), t.heap = H1 → s.vm.Alike t.vm → post r u → B u t → H.size ≤ H1.size → (∀ q : Nat, q < H.size → ¬ A1 q → H1[q]? = H[q]?) → va_S A0 H0 H1 locs1 → W p l e R s m args below meth c H1 locs1 (cells + mc) (slots + ms) Q (F0 m (pc + 3) ls (.int r :: rest))) : W p l e R s m args below meth c H locs cells slots Q (F0 m pc ls st0) := by
  intro T hT X
  rcases hr T hT X with ⟨v, st₀, t, T', L, h0, X', hL, e1, e2, ⟨⟨r, u, hv, hp, hb⟩, hF⟩, st⟩ | ⟨q, st₀, t, T', L, E, ce, h0, X', hL, e1, e2, ⟨u, hp, hb, hF⟩, hce, hcv, hcl, st⟩
  · cases hv
    obtain ⟨k1, k2, k3⟩ := vx_keep h0 e1 hS hA hf hL hF
    obtain ⟨t2, a1, b1⟩ := kk r u t T'.heap (locs ++ L) e1.symm (by rw [← e2]; exact X'.warmed.alike) hp hb k1 k2 k3 T' rfl X'
    exact ⟨t2, st t2 a1, b1⟩
  · obtain ⟨k1, k2, k3⟩ := vx_keep h0 e1 hS hAX hf hL hF
    obtain ⟨t2, a1, b1⟩ := kx E ce q u t T'.heap (locs ++ L) e1.symm (by rw [← e2]; exact X'.warmed.alike) hp hb k1 k2 k3 (by rw [e1]; exact hce) hcv hcl T' rfl X'
    exact ⟨t2, st.trans a1, b1⟩
theorem vx_calll {S SX : Type} {post : Int64 → S → Prop} {px : SX → Prop} {B : S → State → Prop} {BX : String → SX → State → Prop} {AX : Nat → Prop} (hr : vx_Run p l e R s m args below meth c H locs cells slots mc ms (F0 m pc ls st0) rest (va_Ql post B A1 a) (vx_X px BX AX) free) (hS : va_S A0 H0 H locs) (hA : ∀ q, q < H.size → A1 q → A0 q) (hf : ∀ q, free q → A0 q) (hAX : ∀ q, q < H.size → AX q → A0 q)
    (kx : ∀ (E : String) (ce : Cell) (q9 : Addr) (u : SX) (t : State) (H1 : Heap) (locs1 : List Loc), t.heap = H1 → s.vm.Alike t.vm → px u → BX E u t → H.size ≤ H1.size → (∀ q : Nat, q < H.size → ¬ AX q → H1[q]? = H[q]?) → va_S A0 H0 H1 locs1 → H1[q9]? = some ce → ce.vm = .none → s.vm.findClass E = some ce.cls → vx_W p l e R s m args below meth c H1 locs1 (cells + mc) (slots + ms) Q (F0 m pc ls rest) q9)
    (kk : ∀ (r : Int64) (u : S) (t : State) (H1 : Heap) (locs1 : List Loc), t.heap = H1 → s.vm.Alike t.vm → post r u → B u t → H.size ≤ H1.size → (∀ q : Nat, q < H.size → ¬ A1 q → H1[q]? = H[q]?) → va_S A0 H0 H1 locs1 → W p l e R s m args below meth c H1 locs1 (cells + mc) (slots + ms) Q (F0 m (pc + 3) ls (.long r :: rest))) : W p l e R s m args below meth c H locs cells slots Q (F0 m pc ls st0) := by
  intro T hT X
  rcases hr T hT X with ⟨v, st₀, t, T', L, h0, X', hL, e1, e2, ⟨⟨r, u, hv, hp, hb⟩, hF⟩, st⟩ | ⟨q, st₀, t, T', L, E, ce, h0, X', hL, e1, e2, ⟨u, hp, hb, hF⟩, hce, hcv, hcl, st⟩
  · cases hv
    obtain ⟨k1, k2, k3⟩ := vx_keep h0 e1 hS hA hf hL hF
    obtain ⟨t2, a1, b1⟩ := kk r u t T'.heap (locs ++ L) e1.symm (by rw [← e2]; exact X'.warmed.alike) hp hb k1 k2 k3 T' rfl X'
    exact ⟨t2, st t2 a1, b1⟩
  · obtain ⟨k1, k2, k3⟩ := vx_keep h0 e1 hS hAX hf hL hF
    obtain ⟨t2, a1, b1⟩ := kx E ce q u t T'.heap (locs ++ L) e1.symm (by rw [← e2]; exact X'.warmed.alike) hp hb k1 k2 k3 (by rw [e1]; exact hce) hcv hcl T' rfl X'
    exact ⟨t2, st.trans a1, b1⟩
theorem vx_callf {S SX : Type} {post : UInt32 → S → Prop} {px : SX → Prop} {B : S → State → Prop} {BX : String → SX → State → Prop} {AX : Nat → Prop} (hr : vx_Run p l e R s m args below meth c H locs cells slots mc ms (F0 m pc ls st0) rest (va_Qf post B A1 a) (vx_X px BX AX) free) (hS : va_S A0 H0 H locs) (hA : ∀ q, q < H.size → A1 q → A0 q) (hf : ∀ q, free q → A0 q) (hAX : ∀ q, q < H.size → AX q → A0 q)
    (kx : ∀ (E : String) (ce : Cell) (q9 : Addr) (u : SX) (t : State) (H1 : Heap) (locs1 : List Loc), t.heap = H1 → s.vm.Alike t.vm → px u → BX E u t → H.size ≤ H1.size → (∀ q : Nat, q < H.size → ¬ AX q → H1[q]? = H[q]?) → va_S A0 H0 H1 locs1 → H1[q9]? = some ce → ce.vm = .none → s.vm.findClass E = some ce.cls → vx_W p l e R s m args below meth c H1 locs1 (cells + mc) (slots + ms) Q (F0 m pc ls rest) q9)
    (kk : ∀ (r : UInt32) (u : S) (t : State) (H1 : Heap) (locs1 : List Loc), t.heap = H1 → s.vm.Alike t.vm → post r u → B u t → H.size ≤ H1.size → (∀ q : Nat, q < H.size → ¬ A1 q → H1[q]? = H[q]?) → va_S A0 H0 H1 locs1 → W p l e R s m args below meth c H1 locs1 (cells + mc) (slots + ms) Q (F0 m (pc + 3) ls (.float r :: rest))) : W p l e R s m args below meth c H locs cells slots Q (F0 m pc ls st0) := by
  intro T hT X
  rcases hr T hT X with ⟨v, st₀, t, T', L, h0, X', hL, e1, e2, ⟨⟨r, u, hv, hp, hb⟩, hF⟩, st⟩ | ⟨q, st₀, t, T', L, E, ce, h0, X', hL, e1, e2, ⟨u, hp, hb, hF⟩, hce, hcv, hcl, st⟩
  · cases hv
    obtain ⟨k1, k2, k3⟩ := vx_keep h0 e1 hS hA hf hL hF
    obtain ⟨t2, a1, b1⟩ := kk r u t T'.heap (locs ++ L) e1.symm (by rw [← e2]; exact X'.warmed.alike) hp hb k1 k2 k3 T' rfl X'
    exact ⟨t2, st t2 a1, b1⟩
  · obtain ⟨k1, k2, k3⟩ := vx_keep h0 e1 hS hAX hf hL hF
    obtain ⟨t2, a1, b1⟩ := kx E ce q u t T'.heap (locs ++ L) e1.symm (by rw [← e2]; exact X'.warmed.alike) hp hb k1 k2 k3 (by rw [e1]; exact hce) hcv hcl T' rfl X'
    exact ⟨t2, st.trans a1, b1⟩
theorem vx_calld {S SX : Type} {post : UInt64 → S → Prop} {px : SX → Prop} {B : S → State → Prop} {BX : String → SX → State → Prop} {AX : Nat → Prop} (hr : vx_Run p l e R s m args below meth c H locs cells slots mc ms (F0 m pc ls st0) rest (va_Qd post B A1 a) (vx_X px BX AX) free) (hS : va_S A0 H0 H locs) (hA : ∀ q, q < H.size → A1 q → A0 q) (hf : ∀ q, free q → A0 q) (hAX : ∀ q, q < H.size → AX q → A0 q)
    (kx : ∀ (E : String) (ce : Cell) (q9 : Addr) (u : SX) (t : State) (H1 : Heap) (locs1 : List Loc), t.heap = H1 → s.vm.Alike t.vm → px u → BX E u t → H.size ≤ H1.size → (∀ q : Nat, q < H.size → ¬ AX q → H1[q]? = H[q]?) → va_S A0 H0 H1 locs1 → H1[q9]? = some ce → ce.vm = .none → s.vm.findClass E = some ce.cls → vx_W p l e R s m args below meth c H1 locs1 (cells + mc) (slots + ms) Q (F0 m pc ls rest) q9)
    (kk : ∀ (r : UInt64) (u : S) (t : State) (H1 : Heap) (locs1 : List Loc), t.heap = H1 → s.vm.Alike t.vm → post r u → B u t → H.size ≤ H1.size → (∀ q : Nat, q < H.size → ¬ A1 q → H1[q]? = H[q]?) → va_S A0 H0 H1 locs1 → W p l e R s m args below meth c H1 locs1 (cells + mc) (slots + ms) Q (F0 m (pc + 3) ls (.double r :: rest))) : W p l e R s m args below meth c H locs cells slots Q (F0 m pc ls st0) := by
  intro T hT X
  rcases hr T hT X with ⟨v, st₀, t, T', L, h0, X', hL, e1, e2, ⟨⟨r, u, hv, hp, hb⟩, hF⟩, st⟩ | ⟨q, st₀, t, T', L, E, ce, h0, X', hL, e1, e2, ⟨u, hp, hb, hF⟩, hce, hcv, hcl, st⟩
  · cases hv
    obtain ⟨k1, k2, k3⟩ := vx_keep h0 e1 hS hA hf hL hF
    obtain ⟨t2, a1, b1⟩ := kk r u t T'.heap (locs ++ L) e1.symm (by rw [← e2]; exact X'.warmed.alike) hp hb k1 k2 k3 T' rfl X'
    exact ⟨t2, st t2 a1, b1⟩
  · obtain ⟨k1, k2, k3⟩ := vx_keep h0 e1 hS hAX hf hL hF
    obtain ⟨t2, a1, b1⟩ := kx E ce q u t T'.heap (locs ++ L) e1.symm (by rw [← e2]; exact X'.warmed.alike) hp hb k1 k2 k3 (by rw [e1]; exact hce) hcv hcl T' rfl X'
    exact ⟨t2, st.trans a1, b1⟩
theorem vx_callv {S SX : Type} {post : S → Prop} {px : SX → Prop} {B : S → State → Prop} {BX : String → SX → State → Prop} {AX : Nat → Prop} (hr : vx_Run p l e R s m args below meth c H locs cells slots mc ms (F0 m pc ls st0) rest (va_Qv post B A1 a) (vx_X px BX AX) free) (hS : va_S A0 H0 H locs) (hA : ∀ q, q < H.size → A1 q → A0 q) (hf : ∀ q, free q → A0 q) (hAX : ∀ q, q < H.size → AX q → A0 q)
    (kx : ∀ (E : String) (ce : Cell) (q9 : Addr) (u : SX) (t : State) (H1 : Heap) (locs1 : List Loc), t.heap = H1 → s.vm.Alike t.vm → px u → BX E u t → H.size ≤ H1.size → (∀ q : Nat, q < H.size → ¬ AX q → H1[q]? = H[q]?) → va_S A0 H0 H1 locs1 → H1[q9]? = some ce → ce.vm = .none → s.vm.findClass E = some ce.cls → vx_W p l e R s m args below meth c H1 locs1 (cells + mc) (slots + ms) Q (F0 m pc ls rest) q9)
    (kk : ∀ (u : S) (t : State) (H1 : Heap) (locs1 : List Loc), t.heap = H1 → s.vm.Alike t.vm → post u → B u t → H.size ≤ H1.size → (∀ q : Nat, q < H.size → ¬ A1 q → H1[q]? = H[q]?) → va_S A0 H0 H1 locs1 → W p l e R s m args below meth c H1 locs1 (cells + mc) (slots + ms) Q (F0 m (pc + 3) ls (rest))) : W p l e R s m args below meth c H locs cells slots Q (F0 m pc ls st0) := by
  intro T hT X
  rcases hr T hT X with ⟨v, st₀, t, T', L, h0, X', hL, e1, e2, ⟨⟨u, hv, hp, hb⟩, hF⟩, st⟩ | ⟨q, st₀, t, T', L, E, ce, h0, X', hL, e1, e2, ⟨u, hp, hb, hF⟩, hce, hcv, hcl, st⟩
  · cases hv
    obtain ⟨k1, k2, k3⟩ := vx_keep h0 e1 hS hA hf hL hF
    obtain ⟨t2, a1, b1⟩ := kk u t T'.heap (locs ++ L) e1.symm (by rw [← e2]; exact X'.warmed.alike) hp hb k1 k2 k3 T' rfl X'
    exact ⟨t2, st t2 a1, b1⟩
  · obtain ⟨k1, k2, k3⟩ := vx_keep h0 e1 hS hAX hf hL hF
    obtain ⟨t2, a1, b1⟩ := kx E ce q u t T'.heap (locs ++ L) e1.symm (by rw [← e2]; exact X'.warmed.alike) hp hb k1 k2 k3 (by rw [e1]; exact hce) hcv hcl T' rfl X'
    exact ⟨t2, st.trans a1, b1⟩
/-- caught by the row x of this method's table; the rows ahead don't take it -/
theorem vx_catch {own name : String} {E : String} {ce : Cell} {q : Addr} (hown : s.vm.findClass own = some m.cls) (pre : List ExceptionTableEntry) (x : ExceptionTableEntry) (suf : List ExceptionTableEntry) (hsplit : c.exceptionTable.toList = pre ++ x :: suf)
    (hpass : ∀ z ∈ pre, covers z pc = false ∨ (z.catchType ≠ 0 ∧ ∃ nm : String, (Cond.classLink own z.catchType nm).before args s = true ∧ va_Nc E nm s)) (hx : covers x pc = true) (h0 : x.catchType ≠ 0)
    (hlink : (Cond.classLink own x.catchType name).before args s = true) (hcast : (Cond.castable E name).before args s = true) (hcell : H[q]? = some ce) (hv : ce.vm = .none) (hcl : s.vm.findClass E = some ce.cls)
    (kk : W p l e R s m args below meth c H locs cells slots Q (F0 m x.handlerPc ls [.ref q])) : vx_W p l e R s m args below meth c H locs cells slots Q (F0 m pc ls rest) q := by
  intro T hT X
  have hpl : e.platform.magicAccessors = ({} : Platform).magicAccessors := by rw [X.admits.platform]
  obtain ⟨c3, c4, hc3, hc4, hasg⟩ := Cond.castable_spec hcast
  cases Option.some.inj (hc3.symm.trans hcl)
  obtain ⟨c5, hc5, hcl5⟩ := Cond.classLink_spec hown hlink e.platform hpl
  cases Option.some.inj (hc4.symm.trans hc5)
  obtain ⟨vm', X', st⟩ := X.thenCaughtThrough q (g := F0 m pc ls rest) rfl (Steps.refl _) (by rw [hT]; exact hcell) (by rw [hv]; rfl) (by obtain ⟨k9, h9, -⟩ := Vm.findClass_spec hcl; exact ⟨k9, h9⟩) pre x suf hsplit
    (fun z hz => by
      rcases hpass z hz with h | ⟨hz0, nm, hl1, hn1⟩
      · exact Or.inl h
      · obtain ⟨c6, hc6, hcl6⟩ := Cond.classLink_spec hown hl1 e.platform hpl
        obtain ⟨a8, b8, h1, h2, h3⟩ := hn1
        cases Option.some.inj (h1.symm.trans hcl)
        cases Option.some.inj (h2.symm.trans hc6)
        exact Or.inr ⟨hz0, _, hcl6, h3⟩) hx (Or.inr ⟨h0, c4, hcl5, hasg⟩)
  obtain ⟨t, a1, b1⟩ := kk (T.setVm vm') hT X'
  exact ⟨t, st.trans a1, b1⟩
end Rows
section Ends
variable {p : Program} {l : Launch} {e : Env} {R : Room} {s : State} {m : MethodId} {args : Array Value} {below : List Frame} {meth : Method} {c : Code} {H : Heap} {locs : List Loc} {cells slots : Nat} {Q : State → Prop}
variable {mc ms : Nat} {free : Addr → Prop} {A0 A1 : Nat → Prop} {H0 : Heap} {a : Array Value} {ls : Array Slot} {st0 rest : List Value}
variable {Qc : Array Value → State → Outcome → State → Prop} {XC : String → State → State → Prop}
/-- what a body that may throw owes at its end -/
def vx_MQ (below : List Frame) (Qc : Array Value → State → Outcome → State → Prop) (XC : String → State → State → Prop) (a : Array Value) (s : State) (mc ms : Nat) (free : Addr → Prop) : State → Prop := fun t =>
  ∃ o, t.status = .running ∧ Ended t below o ∧ vx_Q Qc XC mc ms free a s o t
theorem vx_ret {g : JFrame} {mc ms : Nat} (k : W p l e R s m args below meth c H locs cells slots (MQ below Qc args s mc ms free) g) : W p l e R s m args below meth c H locs cells slots (vx_MQ below Qc XC args s mc ms free) g := by
  intro T hT X
  obtain ⟨t, a1, o, b1, b2, b3, b4⟩ := k T hT X
  exact ⟨t, a1, o, b1, b2, Or.inl ⟨b3, b4⟩⟩
/-- not caught here: it goes on to the caller -/
theorem vx_widen {g : JFrame} {q : Addr} {k n : Nat} (h1 : cells ≤ k) (h2 : slots ≤ n) (kk : vx_W p l e R s m args below meth c H locs k n Q g q) : vx_W p l e R s m args below meth c H locs cells slots Q g q := fun T hT X => kk T hT (stand_widen X h1 h2)
theorem vx_out {pc : Nat} {E : String} {ce : Cell} {q : Addr} {mc ms : Nat} (hout : ∀ x ∈ c.exceptionTable.toList, covers x pc = false) (hlocks : meth.locks = false) (hcell : H[q]? = some ce) (hv : ce.vm = .none) (hcl : s.vm.findClass E = some ce.cls)
    (hx : ∀ t : State, t.heap = H → s.vm.Alike t.vm → XC E s t) (hf : ∀ z ∈ locs, free z.base) (hc : cells ≤ mc) (hs : slots ≤ ms) :
    vx_W p l e R s m args below meth c H locs cells slots (vx_MQ below Qc XC args s mc ms free) (F0 m pc ls rest) q := by
  intro T hT X
  obtain ⟨st1, hrun, hend, hW, hsm⟩ := X.leaveThrown q (g := F0 m pc ls rest) rfl rfl rfl hout hlocks
  have hcell9 : (T.setFrames (.throwing q :: below)).heap[q]? = some ce := by
    show T.heap[q]? = some ce
    rw [hT]; exact hcell
  exact ⟨_, st1, .threw q, hrun, hend, Or.inr ⟨q, rfl, E, ce, locs, hx _ hT hW.alike, hcell9, hv, hcl, hW, hsm.mono hc hs, hf⟩⟩
theorem vx_frame {U : State} {k n : Nat} (h : s.sameButNew ({ U with vm := s.vm } : State) locs k n) : s.heap.size ≤ U.heap.size ∧ ∀ q : Nat, q < s.heap.size → (∀ z ∈ locs, z.base ≠ q) → U.heap[q]? = s.heap[q]? := by
  obtain ⟨-, h2, -, -, -, h6⟩ := h
  refine ⟨h2, fun q hq hz => ?_⟩
  obtain ⟨c9, e1, e2, e3, e4⟩ := h6 q _ (Array.getElem?_eq_getElem hq)
  have hs : c9.slots = (s.heap[q]).slots := Array.ext_getElem? fun i => e4 i fun hm => hz _ hm rfl
  have h9 : c9 = s.heap[q] := by
    rw [hs] at e2
    exact e2
  have e5 : U.heap[q]? = some c9 := e1
  rw [e5, h9, Array.getElem?_eq_getElem hq]
/-- the words of a throw but the four that speak of the heap -/
def vx_no (w : Cond) : Bool := decide (w ≠ .isRef (.static Bundle.tN "UNASSIGNED_STACK" Bundle.steD)) && decide (w ≠ .isRef (.static Bundle.tN "SUPPRESSED_SENTINEL" Bundle.listD)) && decide (w ≠ .laysStatic Bundle.tN "UNASSIGNED_STACK" Bundle.steD) && decide (w ≠ .laysStatic Bundle.tN "SUPPRESSED_SENTINEL" Bundle.listD)
def vx_at0 (own : String) (ic : Nat) (X : String) (names : List String) : List Cond := (Bundle.ownAtoms0 own ic X names).filter vx_no
def vx_atS (own : String) (ic : Nat) (X : String) (names : List String) : List Cond := (Bundle.ownAtoms own ic X names).filter vx_no
/-- a word that the tables alone decide, or a good one -/
def vx_ot (w : Cond) : Bool := w.onTables || goodWord w
theorem vx_ot_at {args a' : Array Value} {s U : State} {w : Cond} (hW : s.WarmedH U.vm) (hvm : s.vm = U.vm) (hg : vx_ot w = true) (h : w.before args s = true) : w.before a' U = true := by
  simp only [vx_ot, Bool.or_eq_true] at hg
  rcases hg with hg | hg
  · exact va_tabs hg hvm h
  · exact word_at hW (good_of_word hg) h
/-- a list's words: the good ones out of the method's own list, the others by premises of their own -/
theorem vx_hat {args : Array Value} {s : State} {L B : List Cond} (h1 : ∀ w ∈ L.filter goodWord, w.before args s = true) (h2 : ∀ w ∈ L.filter (fun w => !goodWord w), w ∈ B) (h3 : ∀ w ∈ B, w.before args s = true) : ∀ w ∈ L, w.before args s = true := by
  intro w hw
  by_cases g : goodWord w = true
  · exact h1 w (List.mem_filter.mpr ⟨hw, g⟩)
  · refine h3 w (h2 w (List.mem_filter.mpr ⟨hw, ?_⟩))
    show (!goodWord w) = true
    cases hgw : goodWord w
    · rfl
    · exact absurd hgw g
theorem vx_c {args : Array Value} {s : State} {w : Cond} {B : List Cond} (h : w.before args s = true) (t : ∀ w ∈ B, w.before args s = true) : ∀ w' ∈ w :: B, w'.before args s = true := fun w' h' => (List.mem_cons.mp h').elim (fun e => by rw [e]; exact h) (t w')
theorem vx_n {args : Array Value} {s : State} : ∀ w ∈ ([] : List Cond), w.before args s = true := fun _ h => nomatch h
theorem vx_own {args : Array Value} {s : State} {L : List Cond} (h1 : ∀ w ∈ L.filter vx_no, w.before args s = true)
    (hU : (Cond.isRef (.static Bundle.tN "UNASSIGNED_STACK" Bundle.steD)).before args s = true) (hN : (Cond.isRef (.static Bundle.tN "SUPPRESSED_SENTINEL" Bundle.listD)).before args s = true)
    (lU : (Cond.laysStatic Bundle.tN "UNASSIGNED_STACK" Bundle.steD).before args s = true) (lN : (Cond.laysStatic Bundle.tN "SUPPRESSED_SENTINEL" Bundle.listD).before args s = true) : ∀ w ∈ L, w.before args s = true := by
  intro w hw
  by_cases e1 : w = .isRef (.static Bundle.tN "UNASSIGNED_STACK" Bundle.steD)
  · rw [e1]; exact hU
  · by_cases e2 : w = .isRef (.static Bundle.tN "SUPPRESSED_SENTINEL" Bundle.listD)
    · rw [e2]; exact hN
    · by_cases e3 : w = .laysStatic Bundle.tN "UNASSIGNED_STACK" Bundle.steD
      · rw [e3]; exact lU
      · by_cases e4 : w = .laysStatic Bundle.tN "SUPPRESSED_SENTINEL" Bundle.listD
        · rw [e4]; exact lN
        · exact h1 w (List.mem_filter.mpr ⟨hw, by unfold vx_no; rw [decide_eq_true e1, decide_eq_true e2, decide_eq_true e3, decide_eq_true e4]; rfl⟩)
/-- where a static field lies, its class's statics cell in H -/
def vx_L (C n d : String) (A : Nat → Prop) (U : State) (H : Heap) : Prop := ∃ (c : ClassId) (k : Class) (i : Nat) (f : Field) (a : Nat) (cell : Cell), U.vm.findClass C = some c ∧ U.fieldFound? C n d = some (c, k, i, f) ∧ f.isStatic = true ∧ k.statics = some a ∧ H[a]? = some cell ∧ cell.vm.isStatics = true ∧ cell.cls = c ∧ f.slot < cell.slots.size ∧ k.staticTypes[f.slot]? = some f.type ∧ ¬ A a
theorem vx_L.moved {C n d : String} {A : Nat → Prop} {u U : State} {H : Heap} (hvm : u.vm.Alike U.vm) (h : vx_L C n d A u H) : vx_L C n d A U H := by
  obtain ⟨c, k, i, f, a, cell, h1, h2, h3, h4, h5, h6, h7, h8, h9, h10⟩ := h
  obtain ⟨k', hi', he⟩ := State.fieldFound?_setVm hvm h2
  exact ⟨c, k', i, f, a, cell, by rw [hvm.findClass]; exact h1, hi', h3, by rw [he]; exact h4, h5, h6, h7, h8, by rw [he]; exact h9, h10⟩
theorem vx_L.kept {C n d : String} {A : Nat → Prop} {U : State} {H H1 : Heap} (h : vx_L C n d A U H) (hq : ∀ a : Nat, a < H.size → ¬ A a → H1[a]? = H[a]?) : vx_L C n d A U H1 := by
  obtain ⟨c, k, i, f, a, cell, h1, h2, h3, h4, h5, h6, h7, h8, h9, h10⟩ := h
  exact ⟨c, k, i, f, a, cell, h1, h2, h3, h4, by rw [hq a (Array.getElem?_eq_some_iff.mp h5).1 h10]; exact h5, h6, h7, h8, h9, h10⟩
theorem vx_L.narrow {C n d : String} {A B : Nat → Prop} {U : State} {H : Heap} (h : vx_L C n d A U H) (hAB : ∀ q, B q → A q) : vx_L C n d B U H := by
  obtain ⟨c, k, i, f, a, cell, h1, h2, h3, h4, h5, h6, h7, h8, h9, h10⟩ := h
  exact ⟨c, k, i, f, a, cell, h1, h2, h3, h4, h5, h6, h7, h8, h9, fun z => h10 (hAB _ z)⟩
theorem vx_L.word {C n d : String} {A : Nat → Prop} {s : State} {args : Array Value} (h : vx_L C n d A s s.heap) : (Cond.laysStatic C n d).before args s = true := by
  obtain ⟨c, k, i, f, a, cell, h1, h2, h3, h4, h5, h6, h7, h8, h9, -⟩ := h
  show (Cond.laysStatic C n d).holds args s none s [] = true
  exact Cond.laysStatic_of h1 h2 h3 h4 h5 h6 h7 h8 h9
/-- .. and what it holds: null or some reference -/
def vx_Zq (C n d : String) (A : Nat → Prop) (U : State) (H : Heap) : Prop := va_Zq C n d A U H ∧ vx_L C n d A U H
theorem vx_Zq.moved {C n d : String} {A : Nat → Prop} {u U : State} {H : Heap} (hvm : u.vm.Alike U.vm) (h : vx_Zq C n d A u H) : vx_Zq C n d A U H := ⟨va_Zq.moved hvm h.1, vx_L.moved hvm h.2⟩
theorem vx_Zq.kept {C n d : String} {A : Nat → Prop} {U : State} {H H1 : Heap} (h : vx_Zq C n d A U H) (hq : ∀ a : Nat, a < H.size → ¬ A a → H1[a]? = H[a]?) : vx_Zq C n d A U H1 := ⟨va_Zq.kept h.1 hq, vx_L.kept h.2 hq⟩
theorem vx_Zq.narrow {C n d : String} {A B : Nat → Prop} {U : State} {H : Heap} (h : vx_Zq C n d A U H) (hAB : ∀ q, B q → A q) : vx_Zq C n d B U H := ⟨va_Zq.narrow h.1 hAB, vx_L.narrow h.2 hAB⟩
theorem vx_Zqof {args : Array Value} {s : State} {C n d : String} {A : Nat → Prop} (hl : (Cond.laysStatic C n d).before args s = true) (hini : (Cond.initialized C).before args s = true) (h : (Cond.isRef (.static C n d)).before args s = true) (hA : ∀ a : Nat, a < s.heap.size → ¬ A a) : vx_Zq C n d A s s.heap := by
  refine ⟨va_Zqof hl hini h hA, ?_⟩
  obtain ⟨c, k, i, f, a, cell, h1, h2, h3, h4, h5, h6, h7, h8, h9⟩ := Cond.laysStatic_spec hl
  exact ⟨c, k, i, f, a, cell, h1, h2, h3, h4, h5, h6, h7, h8, h9, hA a (Array.getElem?_eq_some_iff.mp h5).1⟩
theorem vx_isRef {C n d : String} {v : Value} {A : Nat → Prop} {s : State} {args : Array Value} (h : va_Z C n d v A s s.heap) (hv : v.isRef = true) : (Cond.isRef (.static C n d)).before args s = true := by
  obtain ⟨cf, kf, fi, f, a, cell, h1, h2, h3, h4, h5, h6, h7, -⟩ := h
  have he : (Term.static C n d).eval args s none [] s = some v := by
    simp [Term.eval, State.fieldNamed?, h1, h2, h4, h5, h6, h7]
  simp only [Cond.before, Cond.holds, Cond.value, he]
  cases v <;> simp_all [Value.isRef]
theorem vx_isRefq {C n d : String} {A : Nat → Prop} {s : State} {args : Array Value} (h : va_Zq C n d A s s.heap) : (Cond.isRef (.static C n d)).before args s = true := by
  rcases h with h | ⟨t, h⟩
  · exact vx_isRef h rfl
  · exact vx_isRef h rfl
/-- the same frame, seen from here: as if the method were called anew in this heap -/
theorem vx_rebase {T : State} (X : Stand p l e R s m args below meth c T locs cells slots) {R' : Room} (hf : R'.frames ≤ R.frames) (hl : R'.locals ≤ R.locals) (hc : cells + R'.cells ≤ R.cells) (hs : slots + R'.slots ≤ R.slots) :
    Stand p l e R' ((T.setVm s.vm).setFrames (.invoking m args :: below)) m args below meth c T [] 0 0 := by
  have htop : (T.setVm s.vm).topJava?.isSome := X.here.top
  have hF : ((T.setVm s.vm).setFrames (.invoking m args :: below)).frames = .invoking m args :: below := State.frames_setFrames _ (State.cur_lt_of_top htop)
  obtain ⟨g₀, hg0⟩ := Option.isSome_iff_exists.mp htop
  obtain ⟨r, hr⟩ := State.topJava?_eq_some.mp hg0
  have hl9 : e.platform.stackLimits (T.setVm s.vm).me = e.platform.stackLimits s.me := X.limits
  have hb9 : (T.setVm s.vm).me.stackBytes = s.me.stackBytes := X.bytes
  refine ⟨X.admits, X.cas, X.clock, hF, ?_, X.hears, X.method, X.code, X.here, X.tail, X.warmed, ?_, ?_, ?_⟩
  · have h := X.room
    have hU : ((T.setVm s.vm).setFrames (.invoking m args :: below)).localsInUse = s.localsInUse := by
      rw [State.localsInUse_invoking hF (meth := meth) (c := c) X.method X.code, State.localsInUse_invoking X.frames X.method X.code]
    simp only [State.hasRoom, Bool.and_eq_true, decide_eq_true_eq] at h ⊢
    obtain ⟨⟨⟨⟨h1, h2, h3, h4, h5, h6⟩, h7⟩, h8⟩, h9⟩ := h
    rw [X.frames, List.length_cons] at h2 h3
    have q1 := X.heapSize
    have q2 := X.used
    simp only [hF, hU, List.length_cons, State.stackLimits_setFrames, State.stackBytes_setFrames, hl9, hb9]
    refine ⟨⟨⟨⟨by omega, by omega, by omega, by omega, by omega, h6⟩, ?_⟩, ?_⟩, X.book⟩
    · show T.heap.size + R'.cells ≤ e.platform.maxCells
      omega
    · show T.slotsUsed + R'.slots ≤ e.platform.maxSlots
      omega
  · rw [State.stackLimits_setFrames]; rfl
  · rw [State.stackBytes_setFrames]; rfl
  · refine ⟨?_, Nat.le_refl _, Nat.le_refl _, ?_, ?_, fun a c9 h9 => ⟨c9, h9, rfl, rfl, fun _ _ => rfl⟩⟩
    · obtain ⟨t, ht, -⟩ := State.frames_cons hr
      show T.setVm s.vm = { ((T.setVm s.vm).setFrames (.invoking m args :: below)).setFrames (T.setVm s.vm).frames with heap := T.heap, slotsUsed := T.slotsUsed }
      rw [State.setFrames_setFrames, State.setFrames_self ht]
      rfl
    · show T.slotsUsed = T.slotsUsed + ((T.heap.toList.drop T.heap.size).map (·.slots.size)).sum
      rw [List.drop_eq_nil_of_le (Nat.le_of_eq Array.length_toList)]
      rfl
    · show ((T.heap.toList.drop T.heap.size).map (·.slots.size)).sum ≤ 0
      rw [List.drop_eq_nil_of_le (Nat.le_of_eq Array.length_toList)]
      exact Nat.le_refl _
/-- 'throw new E()': new; dup; invokespecial; athrow -/
theorem vx_throw0 {cc : ByteArray} {pc : Nat} (hexec : p.tables.exec = Jvm.exec) (hb : c.code = cc) (hl : l.stackTraces = false) {own cls : String} {names : List String} {ik ic mc ms : Nat} {A : Nat → Prop}
    (hown : s.vm.findClass own = some m.cls) (hcls : Bundle.fit cls = true) (hnames : ∀ n ∈ names, Bundle.fit n = true)
    (hk : (Cond.classLink own ik cls).before args s = true) (hini : (Cond.initialized cls).before args s = true) (hat : ∀ w ∈ vx_at0 own ic cls names, w.before args s = true)
    (hgood : ∀ w ∈ Cond.classLink own ik cls :: Cond.initialized cls :: vx_at0 own ic cls names, vx_ot w = true)
    (hU : vx_Zq Bundle.tN "UNASSIGNED_STACK" Bundle.steD A s s.heap) (hN : vx_Zq Bundle.tN "SUPPRESSED_SENTINEL" Bundle.listD A s s.heap) (hS : va_S A s.heap H locs) (hsize : ls.size = c.maxLocals)
    (d0 : decode cc pc = .ok (.new ik, 3)) (d3 : decode cc (pc + 3) = .ok (.dup, 1)) (d4 : decode cc (pc + 4) = .ok (.invokespecial ic, 3)) (d7 : decode cc (pc + 7) = .ok (.athrow, 1))
    (hout : ∀ x ∈ c.exceptionTable.toList, covers x (pc + 7) = false)
    (hRframes : names.length + 3 < R.frames) (hRlocals : (rest.map fun v => v.category).sum + (13 * (names.length + 1) + 42) ≤ R.locals) (hRcells : cells + 1 ≤ R.cells) (hRslots : slots + 6 ≤ R.slots) (hlocks : meth.locks = false)
    (hx : ∀ t : State, s.vm.Alike t.vm → H.size ≤ t.heap.size → (∀ q : Nat, q < H.size → t.heap[q]? = H[q]?) → XC cls s t)
    (hf : ∀ z ∈ locs, free z.base) (hc : cells + 1 ≤ mc) (hs : slots + 6 ≤ ms) :
    W p l e R s m args below meth c H locs cells slots (vx_MQ below Qc XC args s mc ms free) (F0 m pc ls rest) := by
  intro T hT X
  have htr : e.platform.stackTraces = false := (show e.platform.stackTraces = l.stackTraces by rw [X.admits.platform]).trans hl
  have Y := vx_rebase X (R' := { frames := R.frames, locals := R.locals, cells := 1, slots := 6 }) (Nat.le_refl _) (Nat.le_refl _) hRcells hRslots
  obtain ⟨s', hA⟩ : ∃ z, z = (T.setVm s.vm).setFrames (.invoking m args :: below) := ⟨_, rfl⟩
  rw [← hA] at Y
  have hvm : s'.vm = s.vm := by rw [hA]; rfl
  have hhp : s'.heap = H := by rw [hA]; exact hT
  have hW0 : s.WarmedH s'.vm := by rw [hvm]; exact State.WarmedH.refl s
  have hat' : ∀ w ∈ vx_at0 own ic cls names, w.before args s' = true := fun w hw => vx_ot_at hW0 hvm.symm (hgood w (List.mem_cons_of_mem _ (List.mem_cons_of_mem _ hw))) (hat w hw)
  have hk' : (Cond.classLink own ik cls).before args s' = true := vx_ot_at hW0 hvm.symm (hgood _ List.mem_cons_self) hk
  have hini' : (Cond.initialized cls).before args s' = true := vx_ot_at hW0 hvm.symm (hgood _ (List.mem_cons_of_mem _ List.mem_cons_self)) hini
  have hU' : vx_Zq Bundle.tN "UNASSIGNED_STACK" Bundle.steD A s' s'.heap := by rw [hhp]; exact vx_Zq.moved hW0.alike (hU.kept hS.2.1)
  have hN' : vx_Zq Bundle.tN "SUPPRESSED_SENTINEL" Bundle.listD A s' s'.heap := by rw [hhp]; exact vx_Zq.moved hW0.alike (hN.kept hS.2.1)
  have h : ∀ w ∈ Bundle.ownAtoms0 own ic cls names, w.before args s' = true := vx_own hat' (vx_isRefq hU'.1) (vx_isRefq hN'.1) hU'.2.word hN'.2.word
  have hown' : s'.vm.findClass own = some m.cls := by rw [hvm]; exact hown
  have hins : (Cond.instantiable cls 6).before args s' = true := h _ (by simp [Bundle.ownAtoms0])
  obtain ⟨vm₁, cX, kX, hfX, hkX, -, -, X₁, st1⟩ := Y.newCold hexec (own := own) (C := cls) (index := ik) (n := 6) hown' hk' hins hini'
    (g := F0 m pc ls rest) rfl (by rw [hb]; exact d0) (Nat.le_refl _) (Nat.le_refl _)
  generalize hT1 : (T.setVm vm₁).pushCell { cls := cX, slots := kX.instanceTypes.map defaultValue, vm := .none } = T1 at X₁ st1
  have hcat : (Value.ref T.heap.size).category = 1 := rfl
  have hcellA : T1.heap[T.heap.size]? = some (freshCell cX kX) := by rw [← hT1]; exact State.heap_pushCell_size _ _
  have d3' : decode c.code (pc + 3) = .ok (.dup, 1) := by rw [hb]; exact d3
  obtain ⟨U, hsteps, hrun, hend, hW, hsame, ce, hce, hO⟩ := X₁.ctorThrow0 hexec htr (own := own) (cls := cls) (names := names) (ic := ic) hown' hcls hnames h (fun x hx => nomatch hx) hfX hkX hcellA (by rw [hhp, hT]; exact Nat.le_refl _)
    (g := { method := m, pc := pc + 4, locals := ls, stack := .ref T.heap.size :: .ref T.heap.size :: rest, locked := none }) rfl hsize rfl rfl (rest := rest) rfl
    (by rw [hb]; exact d4) (by rw [hb]; exact d7) hout hRframes (by simp only [List.map_cons, List.sum_cons, hcat]; omega) hlocks
  obtain ⟨f1, f2⟩ := vx_frame hsame
  rw [hhp] at f1 f2
  have hWs : s.WarmedH U.vm := State.WarmedH.trans hW0 hW
  have hcl : s.vm.findClass cls = some ce.cls := by
    have h9 := hO.cls
    rw [hvm] at h9
    exact h9
  have hall : s.sameButNew ({ U with vm := s.vm } : State) locs mc ms := by
    subst hA
    obtain ⟨e1, e2⟩ := hsame
    rw [State.setFrames_setFrames] at e1
    have h2 : (T.setVm s.vm).sameButNew ({ U with vm := s.vm } : State) [] (0 + 1) (0 + 6) := ⟨e1, e2⟩
    have h3 := X.same.trans h2
    rw [List.append_nil] at h3
    exact h3.mono hc hs
  refine ⟨U, ?_, .threw T.heap.size, hrun, hend, Or.inr ⟨T.heap.size, rfl, cls, ce, locs, hx U hWs.alike f1 (fun q hq => f2 q hq (fun z hz => nomatch hz)), hce, hO.vm, hcl, hWs, hall, hf⟩⟩
  refine st1 _ ?_
  show Steps p.tables e below (T1.setTop { method := m, pc := pc + 3, locals := ls, stack := .ref T.heap.size :: rest, locked := none }) _
  jvm_step X₁.here [X₁.here.top, hexec, d3', Value.category]
  exact hsteps
/-- 'throw new E("text")': new; dup; ldc; invokespecial; athrow -/
theorem vx_throwS {cc : ByteArray} {pc : Nat} (hexec : p.tables.exec = Jvm.exec) (hb : c.code = cc) (hl : l.stackTraces = false) {own cls text : String} {names : List String} {ik is ic mc ms sa : Nat} {A : Nat → Prop}
    (hown : s.vm.findClass own = some m.cls) (hcls : Bundle.fit cls = true) (hnames : ∀ n ∈ names, Bundle.fit n = true)
    (hk : (Cond.classLink own ik cls).before args s = true) (hini : (Cond.initialized cls).before args s = true) (hstr : vk_R own is text sa s) (hat : ∀ w ∈ vx_atS own ic cls names, w.before args s = true)
    (hgood : ∀ w ∈ Cond.classLink own ik cls :: Cond.initialized cls :: vx_atS own ic cls names, vx_ot w = true)
    (hU : vx_Zq Bundle.tN "UNASSIGNED_STACK" Bundle.steD A s s.heap) (hN : vx_Zq Bundle.tN "SUPPRESSED_SENTINEL" Bundle.listD A s s.heap) (hS : va_S A s.heap H locs) (hsize : ls.size = c.maxLocals)
    (d0 : decode cc pc = .ok (.new ik, 3)) (d3 : decode cc (pc + 3) = .ok (.dup, 1)) (d4 : decode cc (pc + 4) = .ok (.ldc is, 2)) (d6 : decode cc (pc + 6) = .ok (.invokespecial ic, 3)) (d9 : decode cc (pc + 9) = .ok (.athrow, 1))
    (hout : ∀ x ∈ c.exceptionTable.toList, covers x (pc + 9) = false)
    (hRframes : names.length + 3 < R.frames) (hRlocals : (rest.map fun v => v.category).sum + (13 * (names.length + 1) + 43) ≤ R.locals) (hRcells : cells + 1 ≤ R.cells) (hRslots : slots + 6 ≤ R.slots) (hlocks : meth.locks = false)
    (hx : ∀ t : State, s.vm.Alike t.vm → H.size ≤ t.heap.size → (∀ q : Nat, q < H.size → t.heap[q]? = H[q]?) → XC cls s t)
    (hf : ∀ z ∈ locs, free z.base) (hc : cells + 1 ≤ mc) (hs : slots + 6 ≤ ms) :
    W p l e R s m args below meth c H locs cells slots (vx_MQ below Qc XC args s mc ms free) (F0 m pc ls rest) := by
  intro T hT X
  have htr : e.platform.stackTraces = false := (show e.platform.stackTraces = l.stackTraces by rw [X.admits.platform]).trans hl
  have Y := vx_rebase X (R' := { frames := R.frames, locals := R.locals, cells := 1, slots := 6 }) (Nat.le_refl _) (Nat.le_refl _) hRcells hRslots
  obtain ⟨s', hA⟩ : ∃ z, z = (T.setVm s.vm).setFrames (.invoking m args :: below) := ⟨_, rfl⟩
  rw [← hA] at Y
  have hvm : s'.vm = s.vm := by rw [hA]; rfl
  have hhp : s'.heap = H := by rw [hA]; exact hT
  have hW0 : s.WarmedH s'.vm := by rw [hvm]; exact State.WarmedH.refl s
  have hat' : ∀ w ∈ vx_atS own ic cls names, w.before args s' = true := fun w hw => vx_ot_at hW0 hvm.symm (hgood w (List.mem_cons_of_mem _ (List.mem_cons_of_mem _ hw))) (hat w hw)
  have hk' : (Cond.classLink own ik cls).before args s' = true := vx_ot_at hW0 hvm.symm (hgood _ List.mem_cons_self) hk
  have hini' : (Cond.initialized cls).before args s' = true := vx_ot_at hW0 hvm.symm (hgood _ (List.mem_cons_of_mem _ List.mem_cons_self)) hini
  have hU' : vx_Zq Bundle.tN "UNASSIGNED_STACK" Bundle.steD A s' s'.heap := by rw [hhp]; exact vx_Zq.moved hW0.alike (hU.kept hS.2.1)
  have hN' : vx_Zq Bundle.tN "SUPPRESSED_SENTINEL" Bundle.listD A s' s'.heap := by rw [hhp]; exact vx_Zq.moved hW0.alike (hN.kept hS.2.1)
  have h : ∀ w ∈ Bundle.ownAtoms own ic cls names, w.before args s' = true := vx_own hat' (vx_isRefq hU'.1) (vx_isRefq hN'.1) hU'.2.word hN'.2.word
  have hown' : s'.vm.findClass own = some m.cls := by rw [hvm]; exact hown
  have hins : (Cond.instantiable cls 6).before args s' = true := h _ (by simp [Bundle.ownAtoms])
  obtain ⟨vm₁, cX, kX, hfX, hkX, -, -, X₁, st1⟩ := Y.newCold hexec (own := own) (C := cls) (index := ik) (n := 6) hown' hk' hins hini'
    (g := F0 m pc ls rest) rfl (by rw [hb]; exact d0) (Nat.le_refl _) (Nat.le_refl _)
  generalize hT1 : (T.setVm vm₁).pushCell { cls := cX, slots := kX.instanceTypes.map defaultValue, vm := .none } = T1 at X₁ st1
  have hcat : (Value.ref T.heap.size).category = 1 := rfl
  have hcellA : T1.heap[T.heap.size]? = some (freshCell cX kX) := by rw [← hT1]; exact State.heap_pushCell_size _ _
  have d3' : decode c.code (pc + 3) = .ok (.dup, 1) := by rw [hb]; exact d3
  have d4' : decode c.code (pc + 4) = .ok (.ldc is, 2) := by rw [hb]; exact d4
  have hstr' : vk_R own is text sa s' := vk_R.warm hW0 hstr
  obtain ⟨U, hsteps, hrun, hend, hW, hsame, ce, hce, hO⟩ := X₁.ctorThrowS hexec htr (own := own) (cls := cls) (names := names) (ic := ic) hown' hcls hnames h (fun x hx => nomatch hx) hfX hkX hcellA (by rw [hhp, hT]; exact Nat.le_refl _) (msg := .ref sa) rfl
    (g := { method := m, pc := pc + 6, locals := ls, stack := .ref sa :: .ref T.heap.size :: .ref T.heap.size :: rest, locked := none }) rfl hsize rfl rfl (rest := rest) rfl
    (by rw [hb]; exact d6) (by rw [hb]; exact d9) hout hRframes (by simp only [List.map_cons, List.sum_cons, hcat]; omega) hlocks
  obtain ⟨f1, f2⟩ := vx_frame hsame
  rw [hhp] at f1 f2
  have hWs : s.WarmedH U.vm := State.WarmedH.trans hW0 hW
  have hcl : s.vm.findClass cls = some ce.cls := by
    have h9 := hO.cls
    rw [hvm] at h9
    exact h9
  have hall : s.sameButNew ({ U with vm := s.vm } : State) locs mc ms := by
    subst hA
    obtain ⟨e1, e2⟩ := hsame
    rw [State.setFrames_setFrames] at e1
    have h2 : (T.setVm s.vm).sameButNew ({ U with vm := s.vm } : State) [] (0 + 1) (0 + 6) := ⟨e1, e2⟩
    have h3 := X.same.trans h2
    rw [List.append_nil] at h3
    exact h3.mono hc hs
  refine ⟨U, ?_, .threw T.heap.size, hrun, hend, Or.inr ⟨T.heap.size, rfl, cls, ce, locs, hx U hWs.alike f1 (fun q hq => f2 q hq (fun z hz => nomatch hz)), hce, hO.vm, hcl, hWs, hall, hf⟩⟩
  refine st1 _ ?_
  show Steps p.tables e below (T1.setTop { method := m, pc := pc + 3, locals := ls, stack := .ref T.heap.size :: rest, locked := none }) _
  jvm_step X₁.here [X₁.here.top, hexec, d3', Value.category]
  exact X₁.ldcString hexec (own := own) (text := text) (index := is) (a := sa) hown' hstr'.1 hstr'.2
    (g := { method := m, pc := pc + 4, locals := ls, stack := .ref T.heap.size :: .ref T.heap.size :: rest, locked := none }) rfl d4' _ hsteps
/-- 'throw new E("text")', the text by a wide index -/
theorem vx_throwSW {cc : ByteArray} {pc : Nat} (hexec : p.tables.exec = Jvm.exec) (hb : c.code = cc) (hl : l.stackTraces = false) {own cls text : String} {names : List String} {ik is ic mc ms sa : Nat} {A : Nat → Prop}
    (hown : s.vm.findClass own = some m.cls) (hcls : Bundle.fit cls = true) (hnames : ∀ n ∈ names, Bundle.fit n = true)
    (hk : (Cond.classLink own ik cls).before args s = true) (hini : (Cond.initialized cls).before args s = true) (hstr : vk_R own is text sa s) (hat : ∀ w ∈ vx_atS own ic cls names, w.before args s = true)
    (hgood : ∀ w ∈ Cond.classLink own ik cls :: Cond.initialized cls :: vx_atS own ic cls names, vx_ot w = true)
    (hU : vx_Zq Bundle.tN "UNASSIGNED_STACK" Bundle.steD A s s.heap) (hN : vx_Zq Bundle.tN "SUPPRESSED_SENTINEL" Bundle.listD A s s.heap) (hS : va_S A s.heap H locs) (hsize : ls.size = c.maxLocals)
    (d0 : decode cc pc = .ok (.new ik, 3)) (d3 : decode cc (pc + 3) = .ok (.dup, 1)) (d4 : decode cc (pc + 4) = .ok (.ldc_w is, 3)) (d7 : decode cc (pc + 7) = .ok (.invokespecial ic, 3)) (d10 : decode cc (pc + 10) = .ok (.athrow, 1))
    (hout : ∀ x ∈ c.exceptionTable.toList, covers x (pc + 10) = false)
    (hRframes : names.length + 3 < R.frames) (hRlocals : (rest.map fun v => v.category).sum + (13 * (names.length + 1) + 43) ≤ R.locals) (hRcells : cells + 1 ≤ R.cells) (hRslots : slots + 6 ≤ R.slots) (hlocks : meth.locks = false)
    (hx : ∀ t : State, s.vm.Alike t.vm → H.size ≤ t.heap.size → (∀ q : Nat, q < H.size → t.heap[q]? = H[q]?) → XC cls s t)
    (hf : ∀ z ∈ locs, free z.base) (hc : cells + 1 ≤ mc) (hs : slots + 6 ≤ ms) :
    W p l e R s m args below meth c H locs cells slots (vx_MQ below Qc XC args s mc ms free) (F0 m pc ls rest) := by
  intro T hT X
  have htr : e.platform.stackTraces = false := (show e.platform.stackTraces = l.stackTraces by rw [X.admits.platform]).trans hl
  have Y := vx_rebase X (R' := { frames := R.frames, locals := R.locals, cells := 1, slots := 6 }) (Nat.le_refl _) (Nat.le_refl _) hRcells hRslots
  obtain ⟨s', hA⟩ : ∃ z, z = (T.setVm s.vm).setFrames (.invoking m args :: below) := ⟨_, rfl⟩
  rw [← hA] at Y
  have hvm : s'.vm = s.vm := by rw [hA]; rfl
  have hhp : s'.heap = H := by rw [hA]; exact hT
  have hW0 : s.WarmedH s'.vm := by rw [hvm]; exact State.WarmedH.refl s
  have hat' : ∀ w ∈ vx_atS own ic cls names, w.before args s' = true := fun w hw => vx_ot_at hW0 hvm.symm (hgood w (List.mem_cons_of_mem _ (List.mem_cons_of_mem _ hw))) (hat w hw)
  have hk' : (Cond.classLink own ik cls).before args s' = true := vx_ot_at hW0 hvm.symm (hgood _ List.mem_cons_self) hk
  have hini' : (Cond.initialized cls).before args s' = true := vx_ot_at hW0 hvm.symm (hgood _ (List.mem_cons_of_mem _ List.mem_cons_self)) hini
  have hU' : vx_Zq Bundle.tN "UNASSIGNED_STACK" Bundle.steD A s' s'.heap := by rw [hhp]; exact vx_Zq.moved hW0.alike (hU.kept hS.2.1)
  have hN' : vx_Zq Bundle.tN "SUPPRESSED_SENTINEL" Bundle.listD A s' s'.heap := by rw [hhp]; exact vx_Zq.moved hW0.alike (hN.kept hS.2.1)
  have h : ∀ w ∈ Bundle.ownAtoms own ic cls names, w.before args s' = true := vx_own hat' (vx_isRefq hU'.1) (vx_isRefq hN'.1) hU'.2.word hN'.2.word
  have hown' : s'.vm.findClass own = some m.cls := by rw [hvm]; exact hown
  have hins : (Cond.instantiable cls 6).before args s' = true := h _ (by simp [Bundle.ownAtoms])
  obtain ⟨vm₁, cX, kX, hfX, hkX, -, -, X₁, st1⟩ := Y.newCold hexec (own := own) (C := cls) (index := ik) (n := 6) hown' hk' hins hini'
    (g := F0 m pc ls rest) rfl (by rw [hb]; exact d0) (Nat.le_refl _) (Nat.le_refl _)
  generalize hT1 : (T.setVm vm₁).pushCell { cls := cX, slots := kX.instanceTypes.map defaultValue, vm := .none } = T1 at X₁ st1
  have hcat : (Value.ref T.heap.size).category = 1 := rfl
  have hcellA : T1.heap[T.heap.size]? = some (freshCell cX kX) := by rw [← hT1]; exact State.heap_pushCell_size _ _
  have d3' : decode c.code (pc + 3) = .ok (.dup, 1) := by rw [hb]; exact d3
  have d4' : decode c.code (pc + 4) = .ok (.ldc_w is, 3) := by rw [hb]; exact d4
  have hstr' : vk_R own is text sa s' := vk_R.warm hW0 hstr
  obtain ⟨U, hsteps, hrun, hend, hW, hsame, ce, hce, hO⟩ := X₁.ctorThrowS hexec htr (own := own) (cls := cls) (names := names) (ic := ic) hown' hcls hnames h (fun x hx => nomatch hx) hfX hkX hcellA (by rw [hhp, hT]; exact Nat.le_refl _) (msg := .ref sa) rfl
    (g := { method := m, pc := pc + 7, locals := ls, stack := .ref sa :: .ref T.heap.size :: .ref T.heap.size :: rest, locked := none }) rfl hsize rfl rfl (rest := rest) rfl
    (by rw [hb]; exact d7) (by rw [hb]; exact d10) hout hRframes (by simp only [List.map_cons, List.sum_cons, hcat]; omega) hlocks
  obtain ⟨f1, f2⟩ := vx_frame hsame
  rw [hhp] at f1 f2
  have hWs : s.WarmedH U.vm := State.WarmedH.trans hW0 hW
  have hcl : s.vm.findClass cls = some ce.cls := by
    have h9 := hO.cls
    rw [hvm] at h9
    exact h9
  have hall : s.sameButNew ({ U with vm := s.vm } : State) locs mc ms := by
    subst hA
    obtain ⟨e1, e2⟩ := hsame
    rw [State.setFrames_setFrames] at e1
    have h2 : (T.setVm s.vm).sameButNew ({ U with vm := s.vm } : State) [] (0 + 1) (0 + 6) := ⟨e1, e2⟩
    have h3 := X.same.trans h2
    rw [List.append_nil] at h3
    exact h3.mono hc hs
  refine ⟨U, ?_, .threw T.heap.size, hrun, hend, Or.inr ⟨T.heap.size, rfl, cls, ce, locs, hx U hWs.alike f1 (fun q hq => f2 q hq (fun z hz => nomatch hz)), hce, hO.vm, hcl, hWs, hall, hf⟩⟩
  refine st1 _ ?_
  show Steps p.tables e below (T1.setTop { method := m, pc := pc + 3, locals := ls, stack := .ref T.heap.size :: rest, locked := none }) _
  jvm_step X₁.here [X₁.here.top, hexec, d3', Value.category]
  exact X₁.ldcStringW hexec (own := own) (text := text) (index := is) (a := sa) hown' hstr'.1 hstr'.2
    (g := { method := m, pc := pc + 4, locals := ls, stack := .ref T.heap.size :: .ref T.heap.size :: rest, locked := none }) rfl d4' _ hsteps
end Ends
section Bodies
variable {l : Launch}
theorem vx_ofW {y : MethodName} {ws ws' : List Cond} {rm : Room} {Pc : Array Value → State → Prop} {Qc : Array Value → State → Outcome → State → Prop} {XC : String → State → State → Prop} {mc ms : Nat} {free : Addr → Prop} {cc : ByteArray} {maxL : Nat} {ret : Option FieldType}
    (hy : plainName y.cls = true) (hw : ws = Cond.code y cc maxL ret :: ws')
    (body : ∀ p e s m args below meth c s₁, BodyLoose p l y (headSpec ws rm) cc maxL ret e s m args below meth c s₁ → c.maxLocals = maxL → (∀ x ∈ c.exceptionTable.toList, False) → Pc args s →
      W p l e (headSpec ws rm).room s m args below meth c s.heap [] 0 0 (vx_MQ below Qc XC args s mc ms free) (entryFrame m args maxL)) : vx_Met l y ws rm Pc Qc XC mc ms free := by
  refine MetFree.of_bodyS (code := cc) (maxLocals := maxL) (ret := ret) hy ?_ ?_
  · intro args s m h hn
    obtain ⟨meth, c, h1, h2, h3, h4, h5, h6, -, -⟩ := Cond.code_spec hn (atoms_spec (ws := ws) h _ (by rw [hw]; exact List.mem_cons_self))
    exact ⟨meth, c, h1, h2, h3, h4, h5, h6⟩
  · intro p e s m args below meth c s₁ B hml hP _
    have hh0 : s₁.heap = s.heap := by rw [B.state]; rfl
    have ht : ∀ x ∈ c.exceptionTable.toList, False := by
      obtain ⟨meth9, c9, h1, h2, -, -, -, -, h7, -⟩ := Cond.code_spec B.named (atoms_spec (ws := ws) B.pre _ (by rw [hw]; exact List.mem_cons_self))
      cases Option.some.inj (h1.symm.trans B.method)
      cases Option.some.inj (h2.symm.trans (Stand.of_body B).code)
      intro x hx
      rw [Array.isEmpty_iff.mp h7] at hx
      cases hx
    obtain ⟨t, a1, o, b1, b2, b3⟩ := body p e s m args below meth c s₁ B hml ht hP s₁ hh0 (Stand.of_body B)
    exact ⟨t, o, a1, b1, b2, b3⟩
/-- the table of a body with handlers -/
theorem vx_table {p : Program} {x y : MethodName} {S : Spec} {cc bytes : ByteArray} {maxL maxL' : Nat} {ret ret' : Option FieldType} {e : Env} {s s₁ : State} {m : MethodId} {args : Array Value} {below : List Frame} {meth : Method} {c : Code} {hh : List (Nat × Nat × Nat × Nat)}
    (B : BodyLoose p l y S cc maxL ret e s m args below meth c s₁) (h : (Cond.codeWith y bytes maxL' ret' hh).before args s = true) : c.exceptionTable.toList = tableOf hh := by
  obtain ⟨m9, meth9, c9, hn9, h1, h2, -, -, h6, -⟩ := Cond.codeWith_spec h
  cases Option.some.inj (hn9.symm.trans B.named)
  cases Option.some.inj (h1.symm.trans B.method)
  cases Option.some.inj (h2.symm.trans (Stand.of_body B).code)
  rw [← h6, table_eq]
end Bodies
end VXA
/-! ===== END ===== -/
/-! ===== BEGIN a static call of a method with an exception table ===== -/
section VXS
variable {p : Program} {l : Launch} {e : Env} {R : Room} {s : State} {m : MethodId} {args : Array Value} {below : List Frame} {meth : Method} {c : Code} {T : State} {H : Heap} {locs : List Loc} {cells slots : Nat}
abbrev vx_CSW (R : Room) (s : State) (args : Array Value) (own : String) (index : Nat) (y : MethodName) (bytes : ByteArray) (maxL : Nat) (ret : Option FieldType) (hh : List (Nat × Nat × Nat × Nat)) (ws : List Cond) (rm : Room) (mc ms n : Nat) : Prop :=
  (rm.cells = mc ∧ rm.slots = ms ∧ rm.frames + 1 ≤ R.frames ∧ 8 + (maxL + 11) + rm.locals ≤ R.locals ∧ (∀ w ∈ ws, ∀ (a' : Array Value) (U : State), s.WarmedH U.vm → w.before a' U = true) ∧ Cond.codeWith y bytes maxL ret hh ∈ ws) ∧
  (Cond.codeWith y bytes maxL ret hh).before args s = true ∧ (Cond.initialized y.cls).before args s = true ∧ (y.cls ≠ "java/lang/invoke/MethodHandle" ∧ y.cls ≠ "java/lang/invoke/VarHandle") ∧
  (∀ sig, parseMethodDescriptor y.desc = some sig → n = sig.parameters.length) ∧ (Cond.methodLink own index y).before args s = true ∧ (Cond.static y).before args s = true
theorem vx_cwSW {own : String} {index maxL mc ms : Nat} {y : MethodName} {bytes : ByteArray} {ret : Option FieldType} {hh : List (Nat × Nat × Nat × Nat)} {Ts ws ws' : List Cond} {rm : Room} (n : Nat) (ht : ∀ w ∈ Ts, w.before args s = true) (hT : GoodIn Ts (va_wsS own index y ws)) (hw : ws = Cond.codeWith y bytes maxL ret hh :: ws') (hrc : rm.cells = mc) (hrs : rm.slots = ms)
    (hd : y.cls ≠ "java/lang/invoke/MethodHandle" ∧ y.cls ≠ "java/lang/invoke/VarHandle" ∧ (parseMethodDescriptor y.desc).map (fun d => d.parameters.length) = some n) (hR : rm.frames + 1 ≤ R.frames ∧ 8 + (maxL + 11) + rm.locals ≤ R.locals) :
    vx_CSW R s args own index y bytes maxL ret hh ws rm mc ms n := by
  have ok : ∀ w ∈ va_wsS own index y ws, w.before args s = true := fun w h => ht w (hT w h).1
  have hG : GoodIn Ts ws := fun w h => hT w (by unfold va_wsS; exact List.mem_append_right _ h)
  have hc : Cond.codeWith y bytes maxL ret hh ∈ ws := by rw [hw]; exact List.mem_cons_self
  refine ⟨⟨hrc, hrs, hR.1, hR.2, pay_in ht hG, hc⟩, ht _ (hG _ hc).1, ok _ (by simp [va_wsS]), ⟨hd.1, hd.2.1⟩, fun sig h => ?_, ok _ (by simp [va_wsS]), ok _ (by simp [va_wsS])⟩
  have h2 := hd.2.2
  rw [h] at h2
  exact (Option.some.inj h2).symm
theorem vx_callSW (X : Stand p l e R s m args below meth c T locs cells slots) (hexec : p.tables.exec = Jvm.exec) {own : String} {index : Nat} {y : MethodName} {bytes : ByteArray} {maxL : Nat} {ret : Option FieldType} {hh : List (Nat × Nat × Nat × Nat)}
    (hown : s.vm.findClass own = some m.cls) (hlink : (Cond.methodLink own index y).before args s = true) (hstat : (Cond.static y).before args s = true) (hinit : (Cond.initialized y.cls).before args s = true)
    (hcode : (Cond.codeWith y bytes maxL ret hh).before args s = true) (hy : y.cls ≠ "java/lang/invoke/MethodHandle" ∧ y.cls ≠ "java/lang/invoke/VarHandle")
    {W9 : Nat} {Pre : Pt → Array Value → Prop} {Post : Pt → Array Value → Option Value → Pt → Prop} (hK : Back l R p e below s args y 3 W9 Pre Post)
    {g : JFrame} (hg : g.method = m) (hsize : g.locals.size = c.maxLocals) {argsL rest : List Value} (hlen : ∀ sig, parseMethodDescriptor y.desc = some sig → argsL.length = sig.parameters.length)
    (hstack : g.stack = argsL.reverse ++ rest) (hW : 2 * g.monitorRoom + (rest.map fun v => v.category).sum ≤ W9) (hdg : decode c.code g.pc = .ok (.invokestatic index, 3))
    (hpre : ∀ vm₁, s.WarmedH vm₁ → Pre ⟨T.setVm vm₁, locs, cells, slots⟩ argsL.toArray) :
    ∃ (v : Option Value) (vm₁ : Vm) (B : Pt), s.WarmedH vm₁ ∧ Stand p l e R s m args below meth c B.U B.locs B.cells B.slots ∧ Post ⟨T.setVm vm₁, locs, cells, slots⟩ argsL.toArray v B ∧
      ∀ target, Steps p.tables e below (B.U.setTop { g with pc := g.pc + 3, stack := v.toList ++ rest }) target → Steps p.tables e below (T.setTop g) target := by
  obtain ⟨mk, methM, cM, hnamed, hmethM, -, -, -, -, -, -, hsigM⟩ := Cond.codeWith_spec hcode
  have hstatic : methM.isStatic = true := Cond.static_spec hnamed hmethM hstat
  obtain ⟨kP, hkP, -⟩ := className_of_methodNamed hnamed
  have hinitP : kP.init = .initialized := Cond.initialized_spec (findClass_of_methodNamed hnamed) hkP hinit
  obtain ⟨vm₁, X₁, hstep₁⟩ := X.invokestatic hexec hown hlink hnamed hmethM hstatic hkP hinitP hy (g := g) hg (argsL := argsL) (rest := rest) (hlen _ hsigM) hstack hdg
  obtain ⟨v, B, X', hpost, hsteps⟩ := hK m meth c ⟨T.setVm vm₁, locs, cells, slots⟩ { g with stack := rest } (.invokestatic index) mk argsL.toArray X₁ hg hsize hdg hW (X₁.named hnamed) (hpre vm₁ X₁.warmed)
  exact ⟨v, vm₁, B, X₁.warmed, X', hpost, fun target h => hstep₁ _ fun acts => by rw [doInvoke_state]; exact hsteps.trans h⟩
theorem vx_runSW {y : MethodName} {bytes cc : ByteArray} {maxL nL mc ms n index : Nat} {ret : Option FieldType} {hh : List (Nat × Nat × Nat × Nat)} {ws : List Cond} {rm : Room} {Pc : Array Value → State → Prop} {Qc : Array Value → State → Outcome → State → Prop} {free : Addr → Prop} {Ts : List Cond} {own : String} {As rest : List Value} {g : JFrame}
    (S : CallFix p m c cc nL s args Ts own) (hM : Met l y ws rm Pc Qc mc ms free) (cw : vx_CSW R s args own index y bytes maxL ret hh ws rm mc ms n) (hp : PreS s H Pc As)
    (hg : g.method = m) (hn : As.length = n) (hsize : g.locals.size = nL) (hstack : g.stack = As.reverse ++ rest) (hW : 2 * g.monitorRoom + (rest.map fun v => v.category).sum ≤ 8) (hdg : decode cc g.pc = .ok (.invokestatic index, 3)) (hf : cells + mc ≤ R.cells ∧ slots + ms ≤ R.slots) :
    va_Run p l e R s m args below meth c H locs cells slots mc ms g rest (Qc As.toArray) (free) := by
  obtain ⟨⟨hrc, hrs, hfr, hlo, hws, hcw⟩, hcode, hini, hy, hlen, hl, hstt⟩ := cw
  have hK : Back l R p e below s args y 3 8 (PreOf R mc ms Pc) (PostOf Qc mc ms free) := va_backW (hh := hh) (bytes := bytes) (maxL := maxL) (ret := ret) hM hp.1 hrc hrs hfr hlo hws hcw (fun a' U hW => word_at hW (Or.inl (by first | rfl | simp [Cond.onTables, Cond.keeps, Cond.steady])) hini)
  obtain ⟨hx, hb, hml, ho, -⟩ := S
  intro T hT X
  obtain ⟨v, vm₁, ⟨U', l2, c2, s2⟩, hW₁, X', ⟨g', mk, t, L, e1, e2, hq, h1, hL, h2, h3⟩, st⟩ := vx_callSW X hx (hh := hh) (bytes := bytes) (maxL := maxL) (ret := ret) ho hl hstt hini hcode hy hK hg (hsize.trans hml.symm) (argsL := As) (rest := rest) (fun sig h => hn.trans (hlen sig h)) hstack hW (by rw [hb]; exact hdg)
    (fun vm₁ hW₁ => ⟨hf.1, hf.2, hp.2 (T.setVm vm₁) hT hW₁⟩)
  dsimp only [Pt.U, Pt.locs, Pt.cells, Pt.slots] at X' e1 e2 h1 h2 h3 st
  subst h1; subst h2; subst h3
  exact ⟨v, (T.setVm vm₁).calling g' mk As.toArray, t, U', L, hT, X', hL, e1, e2, hq, st⟩
/-- not caught here, past rows that name other classes: it goes on to the caller -/
theorem vx_outP {p : Program} {l : Launch} {e : Env} {R : Room} {s : State} {m : MethodId} {args : Array Value} {below : List Frame} {meth : Method} {c : Code} {H : Heap} {locs : List Loc} {cells slots : Nat} {free : Addr → Prop} {ls : Array Slot} {rest : List Value} {Qc : Array Value → State → Outcome → State → Prop} {XC : String → State → State → Prop}
    {pc : Nat} {own E : String} {ce : Cell} {q : Addr} {mc ms : Nat} (hown : s.vm.findClass own = some m.cls) (hlocks : meth.locks = false)
    (hpass : ∀ z ∈ c.exceptionTable.toList, covers z pc = false ∨ (z.catchType ≠ 0 ∧ ∃ nm : String, (Cond.classLink own z.catchType nm).before args s = true ∧ va_Nc E nm s)) (hcell : H[q]? = some ce) (hv : ce.vm = .none) (hcl : s.vm.findClass E = some ce.cls)
    (hx : ∀ t : State, t.heap = H → s.vm.Alike t.vm → XC E s t) (hf : ∀ z ∈ locs, free z.base) (hc : cells ≤ mc) (hs : slots ≤ ms) :
    vx_W p l e R s m args below meth c H locs cells slots (vx_MQ below Qc XC args s mc ms free) (F0 m pc ls rest) q := by
  intro T hT X
  have hpl : e.platform.magicAccessors = ({} : Platform).magicAccessors := by rw [X.admits.platform]
  obtain ⟨vm', hW', X', st⟩ := X.outThrough hlocks q (g := F0 m pc ls rest) rfl rfl rfl (cell := ce) (by rw [hT]; exact hcell) (by rw [hv]; rfl)
    (by obtain ⟨k9, h9, -⟩ := Vm.findClass_spec hcl; exact ⟨k9, h9⟩) (fun z hz => by
      rcases hpass z hz with h | ⟨hz0, nm, hl1, hn1⟩
      · exact Or.inl h
      · obtain ⟨c6, hc6, hcl6⟩ := Cond.classLink_spec hown hl1 e.platform hpl
        obtain ⟨a8, b8, h1, h2, h3⟩ := hn1
        cases Option.some.inj (h1.symm.trans hcl)
        cases Option.some.inj (h2.symm.trans hc6)
        exact Or.inr ⟨hz0, _, hcl6, h3⟩)
  obtain ⟨g₀, hfr⟩ := X'.frames_eq
  have hcell9 : ((T.setVm vm').setFrames (.throwing q :: below)).heap[q]? = some ce := by
    show T.heap[q]? = some ce
    rw [hT]; exact hcell
  have hend : Ended ((T.setVm vm').setFrames (.throwing q :: below)) below (.threw q) := State.frames_setFrames _ (State.cur_lt_of_frames hfr)
  refine ⟨(T.setVm vm').setFrames (.throwing q :: below), ?_, .threw q, X'.here.running, hend, Or.inr ⟨q, rfl, E, ce, locs, hx _ hT (X'.ends _).1.alike, hcell9, hv, hcl, (X'.ends _).1, (X'.ends _).2.mono hc hs, hf⟩⟩
  rw [X.pushThrowing_eq]
  exact st
/-- a thing of a world lies in the heap -/
theorem vx_lt {D : va_G} {cl : List vw_C} {ws : va_W} {H1 : Heap} (h : va_P D cl ws H1) {k : Nat} {q : Nat × va_E} (hk : ws[k]? = some q) : q.1 < H1.size := (h k q hk).lt
end VXS
/-! ===== END ===== -/
/-! ===== BEGIN methods with a table of their own: called by a name, returning or throwing ===== -/
section VXH
/-! vx_backW, vx_callVX, vx_callSX, vx_callVW, vx_runVW, vx_runVX, vx_runSX, vx_ofWH follow the same proofs as their sisters above (Free/Laws.lean, Shelf42/LK1.lean); vx_outP calls Shelf42/NT130.lean (outThrough). -/
section
variable {l : Launch} {R : Room} {p : Program} {e : Env} {below : List Frame} {s : State} {sargs : Array Value} {y : MethodName} {len W9 : Nat}
theorem vx_backW {ws : List Cond} {rm : Room} {Pc : Array Value → State → Prop} {Qc : Array Value → State → Outcome → State → Prop} {XC : String → State → State → Prop} {mc ms : Nat} {free : Addr → Prop} {bytes : ByteArray} {maxL : Nat} {ret : Option FieldType} {hh : List (Nat × Nat × Nat × Nat)}
    (hM : vx_Met l y ws rm Pc Qc XC mc ms free) (hblind : FrameBlind Pc) (hrc : rm.cells = mc) (hrs : rm.slots = ms)
    (hframes : rm.frames + 1 ≤ R.frames) (hlocals : W9 + (maxL + 11) + rm.locals ≤ R.locals)
    (hws : ∀ w ∈ ws, ∀ a' U, s.WarmedH U.vm → w.before a' U = true) (hcode : Cond.codeWith y bytes maxL ret hh ∈ ws) (hinit : ∀ a' U, s.WarmedH U.vm → (Cond.initialized y.cls).before a' U = true) :
    vx_Back l R p e below s sargs y len W9 (PreOf R mc ms Pc) (PostOf Qc mc ms free) (vx_Post XC mc ms free) := by
  intro m meth c A g ig mk a X hg hsize hdg hW hn hp
  have h1 : (headSpec ws rm).pre.before a A.U = true := atoms_intro fun w hw => hws w hw _ _ X.warmed
  have h2 : (Cond.codeWith y bytes maxL ret hh).before a A.U = true := hws _ hcode _ _ X.warmed
  have h3 : (Cond.initialized y.cls).before a A.U = true := hinit _ _ X.warmed
  have h4 : A.cells + (headSpec ws rm).room.cells ≤ R.cells := by rw [show (headSpec ws rm).room.cells = mc from hrc]; exact hp.1
  have h5 : A.slots + (headSpec ws rm).room.slots ≤ R.slots := by rw [show (headSpec ws rm).room.slots = ms from hrs]; exact hp.2.1
  have hPc : Pc a (A.U.calling g mk a) := hblind _ _ _ _ hp.2.2
  obtain ⟨U, Ls, c0, s0⟩ := A
  dsimp only [Pt.U, Pt.locs, Pt.cells, Pt.slots] at h1 h2 h3 h4 h5 X hn hPc ⊢
  obtain ⟨m9, methY, cY, hn9, hmY, hcY, -, hlY, -⟩ := Cond.codeWith_spec h2
  cases Option.some.inj (hn9.symm.trans hn)
  obtain ⟨kY, hkY, -⟩ := className_of_methodNamed hn
  have hinitY : kY.init = .initialized := Cond.initialized_spec (findClass_of_methodNamed hn) hkY h3
  have h : At U g.method c below := by rw [hg]; exact X.here
  have hlocals9 : W9 + (maxL + 11) + (headSpec ws rm).room.locals ≤ R.locals := hlocals
  have happ : (headSpec ws rm).appliesLoose y e.platform (U.calling g mk a) = true :=
    Spec.appliesLoose_calling (g := g) h hdg hn hkY hinitY
      (X.room_calling (g := g) (R' := (headSpec ws rm).room) hsize hmY hcY hframes (by rw [hlY]; omega) h4 h5) h1
  obtain ⟨mid, hmid⟩ := h.above
  have hfr : (U.setTop g).frames = (.java g :: mid) ++ below := by rw [State.frames_setTop' g h.top, hmid]; rfl
  obtain ⟨o, s₂, hsteps, -, hend, hq⟩ := Steps.callFree hM p X.admits X.cas X.clock (acts := []) hfr happ hPc trivial
  have hq' : vx_Q Qc XC mc ms free a (U.calling g mk a) o s₂ := hq
  rw [State.frames_setTop' g h.top] at hend
  obtain ⟨g₀, hg0⟩ := Option.isSome_iff_exists.mp h.top
  obtain ⟨r, hr⟩ := State.topJava?_eq_some.mp hg0
  have hr' : (({ U with heap := s₂.heap, slotsUsed := s₂.slotsUsed } : State).setVm s₂.vm).frames = .java g₀ :: r := hr
  rcases hq' with ⟨hqc, L, hfe, hL⟩ | ⟨q, rfl, E, ce, L, hx, hce, hcv, hcl, hW₂, hsm, hL⟩
  · obtain ⟨⟨v, rfl⟩, hW₂, e2, q2, q3, q4, q5, q6⟩ := id hfe
    have e3 : s₂ = ({ (U.calling g mk a).setFrames s₂.frames with heap := s₂.heap, slotsUsed := s₂.slotsUsed } : State).setVm s₂.vm := by
      have : s₂ = ({ s₂ with vm := (U.calling g mk a).vm } : State).setVm s₂.vm := rfl
      rw [e2] at this
      exact this
    obtain ⟨c₂, i₂, len₂, hc₂, hd₂, hf₂⟩ := hend
    have hW' : U.WarmedH s₂.vm := hW₂
    have hcc : c₂ = c := by
      have h1 : s₂.code? g.method = U.code? g.method := by
        rw [State.code?_eq, State.code?_eq, hW'.alike.method?]
      exact Option.some.inj (hc₂.symm.trans (h1.trans h.code))
    subst hcc
    have hlen : len₂ = len := by rw [hdg] at hd₂; cases hd₂; rfl
    subst hlen
    have hs₂ : s₂ = (({ U with heap := s₂.heap, slotsUsed := s₂.slotsUsed } : State).setVm s₂.vm).setTop { g with pc := g.pc + len₂, stack := v.toList ++ g.stack } := by
      refine e3.trans ?_
      rw [hf₂, State.calling_eq h.top, State.setFrames_setFrames, State.setTop_of_frames _ hr', hr]
      rfl
    have hsame : U.sameButNew ({ U with heap := s₂.heap, slotsUsed := s₂.slotsUsed } : State) L mc ms := by
      refine ⟨?_, q2, q3, q4, q5, q6⟩
      obtain ⟨t, ht, -⟩ := State.frames_cons hr
      show ({ U with heap := s₂.heap, slotsUsed := s₂.slotsUsed } : State) = { U.setFrames U.frames with heap := s₂.heap, slotsUsed := s₂.slotsUsed }
      rw [State.setFrames_self ht]
    subst hg
    refine Or.inl ⟨v, ⟨(({ U with heap := s₂.heap, slotsUsed := s₂.slotsUsed } : State).setVm s₂.vm), Ls ++ L, c0 + mc, s0 + ms⟩,
      ⟨X.admits, X.cas, X.clock, X.frames, X.room, X.hears, X.method, X.code, (X.here.setHeapUsed s₂.heap s₂.slotsUsed).setVm hW'.alike, X.tail, State.WarmedH.trans X.warmed hW', X.limits, X.bytes, X.same.trans (hsame.setVm s.vm)⟩,
      ⟨g, mk, s₂, L, rfl, rfl, hqc, rfl, hL, rfl, rfl⟩, ?_⟩
    show Steps p.tables e below _ ((({ U with heap := s₂.heap, slotsUsed := s₂.slotsUsed } : State).setVm s₂.vm).setTop { g with pc := g.pc + len₂, stack := v.toList ++ g.stack })
    rw [← hs₂]
    exact hsteps
  · obtain ⟨e2, q2, q3, q4, q5, q6⟩ := id hsm
    have e3 : s₂ = ({ (U.calling g mk a).setFrames s₂.frames with heap := s₂.heap, slotsUsed := s₂.slotsUsed } : State).setVm s₂.vm := by
      have : s₂ = ({ s₂ with vm := (U.calling g mk a).vm } : State).setVm s₂.vm := rfl
      rw [e2] at this
      exact this
    have hf₂ : s₂.frames = .throwing q :: .java g :: U.frames.tail := hend
    have hW' : U.WarmedH s₂.vm := hW₂
    have hs₂ : s₂ = ((({ U with heap := s₂.heap, slotsUsed := s₂.slotsUsed } : State).setVm s₂.vm).setTop g).pushFrame (.throwing q) := by
      refine e3.trans ?_
      rw [hf₂, State.calling_eq h.top, State.setFrames_setFrames, State.pushFrame, State.frames_setTop _ hr', State.setTop_of_frames _ hr', State.setFrames_setFrames, hr]
      rfl
    have hsame : U.sameButNew ({ U with heap := s₂.heap, slotsUsed := s₂.slotsUsed } : State) L mc ms := by
      refine ⟨?_, q2, q3, q4, q5, q6⟩
      obtain ⟨t, ht, -⟩ := State.frames_cons hr
      show ({ U with heap := s₂.heap, slotsUsed := s₂.slotsUsed } : State) = { U.setFrames U.frames with heap := s₂.heap, slotsUsed := s₂.slotsUsed }
      rw [State.setFrames_self ht]
    subst hg
    refine Or.inr ⟨q, ⟨(({ U with heap := s₂.heap, slotsUsed := s₂.slotsUsed } : State).setVm s₂.vm), Ls ++ L, c0 + mc, s0 + ms⟩,
      ⟨X.admits, X.cas, X.clock, X.frames, X.room, X.hears, X.method, X.code, (X.here.setHeapUsed s₂.heap s₂.slotsUsed).setVm hW'.alike, X.tail, State.WarmedH.trans X.warmed hW', X.limits, X.bytes, X.same.trans (hsame.setVm s.vm)⟩,
      ⟨g, mk, s₂, L, E, ce, rfl, rfl, hx, hce, hcv, hcl, rfl, hL, rfl, rfl⟩, ?_⟩
    show Steps p.tables e below _ (((({ U with heap := s₂.heap, slotsUsed := s₂.slotsUsed } : State).setVm s₂.vm).setTop g).pushFrame (.throwing q))
    rw [← hs₂]
    exact hsteps
end
variable {p : Program} {l : Launch} {e : Env} {R : Room} {s : State} {m : MethodId} {args : Array Value} {below : List Frame} {meth : Method} {c : Code} {T : State} {H : Heap} {locs : List Loc} {cells slots : Nat}
theorem vx_callVX (X : Stand p l e R s m args below meth c T locs cells slots) (hexec : p.tables.exec = Jvm.exec) {own C : String} {index : Nat} {y : MethodName} {bytes : ByteArray} {maxL : Nat} {ret : Option FieldType} {hh : List (Nat × Nat × Nat × Nat)}
    (hown : s.vm.findClass own = some m.cls) (hlink : (Cond.methodLink own index y).before args s = true) (hinst : (Cond.instanceMethod y).before args s = true) (hsel : (Cond.selects C y y).before args s = true)
    (hcode : (Cond.codeWith y bytes maxL ret hh).before args s = true) (hy : y.cls ≠ "java/lang/invoke/MethodHandle" ∧ y.cls ≠ "java/lang/invoke/VarHandle")
    {W9 : Nat} {Pre : Pt → Array Value → Prop} {Post : Pt → Array Value → Option Value → Pt → Prop} {PostX : Pt → Array Value → Addr → Pt → Prop} (hK : vx_Back l R p e below s args y 3 W9 Pre Post PostX)
    {b : Addr} {cellB : Cell} (hcell : T.heap[b]? = some cellB) (hobj : cellB.vm.isStatics = false) (hcls : s.vm.findClass C = some cellB.cls)
    {g : JFrame} (hg : g.method = m) (hsize : g.locals.size = c.maxLocals) {argsL rest : List Value} (hlen : ∀ sig, parseMethodDescriptor y.desc = some sig → argsL.length = sig.parameters.length)
    (hstack : g.stack = argsL.reverse ++ .ref b :: rest) (hW : 2 * g.monitorRoom + (rest.map fun v => v.category).sum ≤ W9) (hdg : decode c.code g.pc = .ok (.invokevirtual index, 3))
    (hpre : ∀ vm₁, s.WarmedH vm₁ → Pre ⟨T.setVm vm₁, locs, cells, slots⟩ (Value.ref b :: argsL).toArray) :
    (∃ (v : Option Value) (vm₁ : Vm) (B : Pt), s.WarmedH vm₁ ∧ Stand p l e R s m args below meth c B.U B.locs B.cells B.slots ∧ Post ⟨T.setVm vm₁, locs, cells, slots⟩ (Value.ref b :: argsL).toArray v B ∧
      ∀ target, Steps p.tables e below (B.U.setTop { g with pc := g.pc + 3, stack := v.toList ++ rest }) target → Steps p.tables e below (T.setTop g) target) ∨
    (∃ (q : Addr) (vm₁ : Vm) (B : Pt), s.WarmedH vm₁ ∧ Stand p l e R s m args below meth c B.U B.locs B.cells B.slots ∧ PostX ⟨T.setVm vm₁, locs, cells, slots⟩ (Value.ref b :: argsL).toArray q B ∧
      Steps p.tables e below (T.setTop g) ((B.U.setTop { g with stack := rest }).pushFrame (.throwing q))) := by
  obtain ⟨mk, methM, hnamed, hmethM, hstM, habM⟩ := Cond.instanceMethod_spec hinst
  obtain ⟨m8, methM', cM, hn8, hmethM', -, -, -, -, -, -, hsigM⟩ := Cond.codeWith_spec hcode
  cases Option.some.inj (hn8.symm.trans hnamed)
  cases hmethM.symm.trans hmethM'
  obtain ⟨c2, r2, m2, q1, q2, q3, q4, kP, hkP, hkPi⟩ := Cond.selects_spec hsel
  cases hcls.symm.trans q1
  cases (State.methodFound?_of_named hnamed hy).symm.trans q2
  cases hnamed.symm.trans q3
  have hselP : selectMethod e.platform s.vm cellB.cls mk = .method mk := by rw [Launch.admits_selectMethod X.admits]; exact q4
  obtain ⟨vm₁, X₁, hstep₁⟩ := X.invokevirtual hexec hown hlink hnamed hmethM hstM hkP hkPi hy (a := b) (cell := cellB) hcell
    (fun z h => by rw [h] at hobj; cases hobj) hselP hmethM habM hkP hkPi (g := g) hg (argsL := argsL) (rest := rest) (hlen _ hsigM) hstack hdg
  rcases hK m meth c ⟨T.setVm vm₁, locs, cells, slots⟩ { g with stack := rest } (.invokevirtual index) mk (Value.ref b :: argsL).toArray X₁ hg hsize hdg hW (X₁.named hnamed) (hpre vm₁ X₁.warmed) with ⟨v, B, X', hpost, hsteps⟩ | ⟨q, B, X', hpost, hsteps⟩
  · exact Or.inl ⟨v, vm₁, B, X₁.warmed, X', hpost, fun target h => hstep₁ _ fun acts => by rw [doInvoke_state]; exact hsteps.trans h⟩
  · exact Or.inr ⟨q, vm₁, B, X₁.warmed, X', hpost, hstep₁ _ fun acts => by rw [doInvoke_state]; exact hsteps⟩
theorem vx_callSX (X : Stand p l e R s m args below meth c T locs cells slots) (hexec : p.tables.exec = Jvm.exec) {own : String} {index : Nat} {y : MethodName} {bytes : ByteArray} {maxL : Nat} {ret : Option FieldType} {hh : List (Nat × Nat × Nat × Nat)}
    (hown : s.vm.findClass own = some m.cls) (hlink : (Cond.methodLink own index y).before args s = true) (hstat : (Cond.static y).before args s = true) (hinit : (Cond.initialized y.cls).before args s = true)
    (hcode : (Cond.codeWith y bytes maxL ret hh).before args s = true) (hy : y.cls ≠ "java/lang/invoke/MethodHandle" ∧ y.cls ≠ "java/lang/invoke/VarHandle")
    {W9 : Nat} {Pre : Pt → Array Value → Prop} {Post : Pt → Array Value → Option Value → Pt → Prop} {PostX : Pt → Array Value → Addr → Pt → Prop} (hK : vx_Back l R p e below s args y 3 W9 Pre Post PostX)
    {g : JFrame} (hg : g.method = m) (hsize : g.locals.size = c.maxLocals) {argsL rest : List Value} (hlen : ∀ sig, parseMethodDescriptor y.desc = some sig → argsL.length = sig.parameters.length)
    (hstack : g.stack = argsL.reverse ++ rest) (hW : 2 * g.monitorRoom + (rest.map fun v => v.category).sum ≤ W9) (hdg : decode c.code g.pc = .ok (.invokestatic index, 3))
    (hpre : ∀ vm₁, s.WarmedH vm₁ → Pre ⟨T.setVm vm₁, locs, cells, slots⟩ argsL.toArray) :
    (∃ (v : Option Value) (vm₁ : Vm) (B : Pt), s.WarmedH vm₁ ∧ Stand p l e R s m args below meth c B.U B.locs B.cells B.slots ∧ Post ⟨T.setVm vm₁, locs, cells, slots⟩ argsL.toArray v B ∧
      ∀ target, Steps p.tables e below (B.U.setTop { g with pc := g.pc + 3, stack := v.toList ++ rest }) target → Steps p.tables e below (T.setTop g) target) ∨
    (∃ (q : Addr) (vm₁ : Vm) (B : Pt), s.WarmedH vm₁ ∧ Stand p l e R s m args below meth c B.U B.locs B.cells B.slots ∧ PostX ⟨T.setVm vm₁, locs, cells, slots⟩ argsL.toArray q B ∧
      Steps p.tables e below (T.setTop g) ((B.U.setTop { g with stack := rest }).pushFrame (.throwing q))) := by
  obtain ⟨mk, methM, cM, hnamed, hmethM, -, -, -, -, -, -, hsigM⟩ := Cond.codeWith_spec hcode
  have hstatic : methM.isStatic = true := Cond.static_spec hnamed hmethM hstat
  obtain ⟨kP, hkP, -⟩ := className_of_methodNamed hnamed
  have hinitP : kP.init = .initialized := Cond.initialized_spec (findClass_of_methodNamed hnamed) hkP hinit
  obtain ⟨vm₁, X₁, hstep₁⟩ := X.invokestatic hexec hown hlink hnamed hmethM hstatic hkP hinitP hy (g := g) hg (argsL := argsL) (rest := rest) (hlen _ hsigM) hstack hdg
  rcases hK m meth c ⟨T.setVm vm₁, locs, cells, slots⟩ { g with stack := rest } (.invokestatic index) mk argsL.toArray X₁ hg hsize hdg hW (X₁.named hnamed) (hpre vm₁ X₁.warmed) with ⟨v, B, X', hpost, hsteps⟩ | ⟨q, B, X', hpost, hsteps⟩
  · exact Or.inl ⟨v, vm₁, B, X₁.warmed, X', hpost, fun target h => hstep₁ _ fun acts => by rw [doInvoke_state]; exact hsteps.trans h⟩
  · exact Or.inr ⟨q, vm₁, B, X₁.warmed, X', hpost, hstep₁ _ fun acts => by rw [doInvoke_state]; exact hsteps⟩
theorem vx_callVW (X : Stand p l e R s m args below meth c T locs cells slots) (hexec : p.tables.exec = Jvm.exec) {own C : String} {index : Nat} {y : MethodName} {bytes : ByteArray} {maxL : Nat} {ret : Option FieldType} {hh : List (Nat × Nat × Nat × Nat)}
    (hown : s.vm.findClass own = some m.cls) (hlink : (Cond.methodLink own index y).before args s = true) (hinst : (Cond.instanceMethod y).before args s = true) (hsel : (Cond.selects C y y).before args s = true)
    (hcode : (Cond.codeWith y bytes maxL ret hh).before args s = true) (hy : y.cls ≠ "java/lang/invoke/MethodHandle" ∧ y.cls ≠ "java/lang/invoke/VarHandle")
    {W9 : Nat} {Pre : Pt → Array Value → Prop} {Post : Pt → Array Value → Option Value → Pt → Prop} (hK : Back l R p e below s args y 3 W9 Pre Post)
    {b : Addr} {cellB : Cell} (hcell : T.heap[b]? = some cellB) (hobj : cellB.vm.isStatics = false) (hcls : s.vm.findClass C = some cellB.cls)
    {g : JFrame} (hg : g.method = m) (hsize : g.locals.size = c.maxLocals) {argsL rest : List Value} (hlen : ∀ sig, parseMethodDescriptor y.desc = some sig → argsL.length = sig.parameters.length)
    (hstack : g.stack = argsL.reverse ++ .ref b :: rest) (hW : 2 * g.monitorRoom + (rest.map fun v => v.category).sum ≤ W9) (hdg : decode c.code g.pc = .ok (.invokevirtual index, 3))
    (hpre : ∀ vm₁, s.WarmedH vm₁ → Pre ⟨T.setVm vm₁, locs, cells, slots⟩ (Value.ref b :: argsL).toArray) :
    ∃ (v : Option Value) (vm₁ : Vm) (B : Pt), s.WarmedH vm₁ ∧ Stand p l e R s m args below meth c B.U B.locs B.cells B.slots ∧ Post ⟨T.setVm vm₁, locs, cells, slots⟩ (Value.ref b :: argsL).toArray v B ∧
      ∀ target, Steps p.tables e below (B.U.setTop { g with pc := g.pc + 3, stack := v.toList ++ rest }) target → Steps p.tables e below (T.setTop g) target := by
  obtain ⟨mk, methM, hnamed, hmethM, hstM, habM⟩ := Cond.instanceMethod_spec hinst
  obtain ⟨m8, methM', cM, hn8, hmethM', -, -, -, -, -, -, hsigM⟩ := Cond.codeWith_spec hcode
  cases Option.some.inj (hn8.symm.trans hnamed)
  cases hmethM.symm.trans hmethM'
  obtain ⟨c2, r2, m2, q1, q2, q3, q4, kP, hkP, hkPi⟩ := Cond.selects_spec hsel
  cases hcls.symm.trans q1
  cases (State.methodFound?_of_named hnamed hy).symm.trans q2
  cases hnamed.symm.trans q3
  have hselP : selectMethod e.platform s.vm cellB.cls mk = .method mk := by rw [Launch.admits_selectMethod X.admits]; exact q4
  obtain ⟨vm₁, X₁, hstep₁⟩ := X.invokevirtual hexec hown hlink hnamed hmethM hstM hkP hkPi hy (a := b) (cell := cellB) hcell
    (fun z h => by rw [h] at hobj; cases hobj) hselP hmethM habM hkP hkPi (g := g) hg (argsL := argsL) (rest := rest) (hlen _ hsigM) hstack hdg
  obtain ⟨v, B, X', hpost, hsteps⟩ := hK m meth c ⟨T.setVm vm₁, locs, cells, slots⟩ { g with stack := rest } (.invokevirtual index) mk (Value.ref b :: argsL).toArray X₁ hg hsize hdg hW (X₁.named hnamed) (hpre vm₁ X₁.warmed)
  exact ⟨v, vm₁, B, X₁.warmed, X', hpost, fun target h => hstep₁ _ fun acts => by rw [doInvoke_state]; exact hsteps.trans h⟩
abbrev vx_CVW (R : Room) (s : State) (args : Array Value) (own C : String) (index : Nat) (y : MethodName) (bytes : ByteArray) (maxL : Nat) (ret : Option FieldType) (hh : List (Nat × Nat × Nat × Nat)) (ws : List Cond) (rm : Room) (mc ms n : Nat) : Prop :=
  (rm.cells = mc ∧ rm.slots = ms ∧ rm.frames + 1 ≤ R.frames ∧ 8 + (maxL + 11) + rm.locals ≤ R.locals ∧ (∀ w ∈ ws, ∀ (a' : Array Value) (U : State), s.WarmedH U.vm → w.before a' U = true) ∧ Cond.codeWith y bytes maxL ret hh ∈ ws) ∧
  (Cond.codeWith y bytes maxL ret hh).before args s = true ∧ (Cond.initialized y.cls).before args s = true ∧ (y.cls ≠ "java/lang/invoke/MethodHandle" ∧ y.cls ≠ "java/lang/invoke/VarHandle") ∧
  (∀ sig, parseMethodDescriptor y.desc = some sig → n = sig.parameters.length) ∧ (Cond.methodLink own index y).before args s = true ∧ (Cond.instanceMethod y).before args s = true ∧ (Cond.selects C y y).before args s = true
theorem vx_cwVW {own C : String} {index maxL mc ms : Nat} {y : MethodName} {bytes : ByteArray} {ret : Option FieldType} {hh : List (Nat × Nat × Nat × Nat)} {Ts ws ws' : List Cond} {rm : Room} (n : Nat) (ht : ∀ w ∈ Ts, w.before args s = true) (hT : GoodIn Ts (wsV own index C y ws)) (hw : ws = Cond.codeWith y bytes maxL ret hh :: ws') (hrc : rm.cells = mc) (hrs : rm.slots = ms)
    (hd : y.cls = C ∧ y.cls ≠ "java/lang/invoke/MethodHandle" ∧ y.cls ≠ "java/lang/invoke/VarHandle" ∧ (parseMethodDescriptor y.desc).map (fun d => d.parameters.length) = some n) (hR : rm.frames + 1 ≤ R.frames ∧ 8 + (maxL + 11) + rm.locals ≤ R.locals) :
    vx_CVW R s args own C index y bytes maxL ret hh ws rm mc ms n := by
  obtain ⟨hC, hd⟩ := hd
  subst hC
  have ok : ∀ w ∈ wsV own index y.cls y ws, w.before args s = true := fun w h => ht w (hT w h).1
  have hG : GoodIn Ts ws := fun w h => hT w (by unfold wsV; exact List.mem_append_right _ h)
  have hc : Cond.codeWith y bytes maxL ret hh ∈ ws := by rw [hw]; exact List.mem_cons_self
  refine ⟨⟨hrc, hrs, hR.1, hR.2, pay_in ht hG, hc⟩, ht _ (hG _ hc).1, ok _ (by simp [wsV]), ⟨hd.1, hd.2.1⟩, fun sig h => ?_, ok _ (by simp [wsV]), ok _ (by simp [wsV]), ok _ (by simp [wsV])⟩
  have h2 := hd.2.2
  rw [h] at h2
  exact (Option.some.inj h2).symm
theorem vx_runVW {y : MethodName} {bytes cc : ByteArray} {maxL nL mc ms n index : Nat} {ret : Option FieldType} {hh : List (Nat × Nat × Nat × Nat)} {ws : List Cond} {rm : Room} {Pc : Array Value → State → Prop} {Qc : Array Value → State → Outcome → State → Prop} {free : Addr → Prop} {Ts : List Cond} {own C : String} {b : Addr} {As rest : List Value} {g : JFrame}
    (S : CallFix p m c cc nL s args Ts own) (hM : Met l y ws rm Pc Qc mc ms free) (cw : vx_CVW R s args own C index y bytes maxL ret hh ws rm mc ms n) (hp : PreV s H C b Pc As)
    (hg : g.method = m) (hn : As.length = n) (hsize : g.locals.size = nL) (hstack : g.stack = As.reverse ++ .ref b :: rest) (hW : 2 * g.monitorRoom + (rest.map fun v => v.category).sum ≤ 8) (hdg : decode cc g.pc = .ok (.invokevirtual index, 3)) (hf : cells + mc ≤ R.cells ∧ slots + ms ≤ R.slots) :
    va_Run p l e R s m args below meth c H locs cells slots mc ms g rest (Qc (Value.ref b :: As).toArray) free := by
  obtain ⟨⟨hrc, hrs, hfr, hlo, hws, hcw⟩, hcode, hini, hy, hlen, hl, hin, hse⟩ := cw
  have hK : Back l R p e below s args y 3 8 (PreOf R mc ms Pc) (PostOf Qc mc ms free) := va_backW (hh := hh) (bytes := bytes) (maxL := maxL) (ret := ret) hM hp.1 hrc hrs hfr hlo hws hcw (fun a' U hW => word_at hW (Or.inl (by first | rfl | simp [Cond.onTables, Cond.keeps, Cond.steady])) hini)
  obtain ⟨hx, hb, hml, ho, -⟩ := S
  obtain ⟨-, ⟨cellB, hcB, hoB, hclB⟩, hPc⟩ := hp
  intro T hT X
  obtain ⟨v, vm₁, ⟨U', l2, c2, s2⟩, hW₁, X', ⟨g', mk, t, L, e1, e2, hq, h1, hL, h2, h3⟩, st⟩ := vx_callVW X hx (C := C) (hh := hh) (bytes := bytes) (maxL := maxL) (ret := ret) ho hl hin hse hcode hy hK (by rw [hT]; exact hcB) hoB hclB hg (hsize.trans hml.symm) (argsL := As) (rest := rest) (fun sig h => hn.trans (hlen sig h)) hstack hW (by rw [hb]; exact hdg)
    (fun vm₁ hW₁ => ⟨hf.1, hf.2, hPc (T.setVm vm₁) hT hW₁⟩)
  dsimp only [Pt.U, Pt.locs, Pt.cells, Pt.slots] at X' e1 e2 h1 h2 h3 st
  subst h1; subst h2; subst h3
  exact ⟨v, (T.setVm vm₁).calling g' mk (Value.ref b :: As).toArray, t, U', L, hT, X', hL, e1, e2, hq, st⟩
section
variable {y : MethodName} {bytes cc : ByteArray} {maxL nL mc ms n index : Nat} {ret : Option FieldType} {ws : List Cond} {rm : Room} {Pc : Array Value → State → Prop} {Qc : Array Value → State → Outcome → State → Prop} {XC : String → State → State → Prop} {free : Addr → Prop} {Ts : List Cond} {own C : String} {b : Addr} {As rest : List Value} {g : JFrame}
theorem vx_runVX {hh : List (Nat × Nat × Nat × Nat)} (S : CallFix p m c cc nL s args Ts own) (hM : vx_Met l y ws rm Pc Qc XC mc ms free) (cw : vx_CVW R s args own C index y bytes maxL ret hh ws rm mc ms n) (hp : PreV s H C b Pc As)
    (hg : g.method = m) (hn : As.length = n) (hsize : g.locals.size = nL) (hstack : g.stack = As.reverse ++ .ref b :: rest) (hW : 2 * g.monitorRoom + (rest.map fun v => v.category).sum ≤ 8) (hdg : decode cc g.pc = .ok (.invokevirtual index, 3)) (hf : cells + mc ≤ R.cells ∧ slots + ms ≤ R.slots) :
    vx_Run p l e R s m args below meth c H locs cells slots mc ms g rest (Qc (Value.ref b :: As).toArray) XC free := by
  obtain ⟨⟨hrc, hrs, hfr, hlo, hws, hcw⟩, hcode, hini, hy, hlen, hl, hin, hse⟩ := cw
  have hK : vx_Back l R p e below s args y 3 8 (PreOf R mc ms Pc) (PostOf Qc mc ms free) (vx_Post XC mc ms free) := vx_backW (hh := hh) (bytes := bytes) (maxL := maxL) (ret := ret) hM hp.1 hrc hrs hfr hlo hws hcw (fun a' U hW => word_at hW (Or.inl (by first | rfl | simp [Cond.onTables, Cond.keeps, Cond.steady])) hini)
  obtain ⟨hx, hb, hml, ho, -⟩ := S
  obtain ⟨-, ⟨cellB, hcB, hoB, hclB⟩, hPc⟩ := hp
  intro T hT X
  rcases vx_callVX X hx (C := C) (hh := hh) (bytes := bytes) (maxL := maxL) (ret := ret) ho hl hin hse hcode hy hK (by rw [hT]; exact hcB) hoB hclB hg (hsize.trans hml.symm) (argsL := As) (rest := rest) (fun sig h => hn.trans (hlen sig h)) hstack hW (by rw [hb]; exact hdg)
    (fun vm₁ hW₁ => ⟨hf.1, hf.2, hPc (T.setVm vm₁) hT hW₁⟩) with ⟨v, vm₁, ⟨U', l2, c2, s2⟩, hW₁, X', ⟨g', mk, t, L, e1, e2, hq, h1, hL, h2, h3⟩, st⟩ | ⟨q, vm₁, ⟨U', l2, c2, s2⟩, hW₁, X', ⟨g', mk, t, L, E, ce, e1, e2, hq, hce, hcv, hcl, h1, hL, h2, h3⟩, st⟩
  · dsimp only [Pt.U, Pt.locs, Pt.cells, Pt.slots] at X' e1 e2 h1 h2 h3 st
    subst h1; subst h2; subst h3
    exact Or.inl ⟨v, (T.setVm vm₁).calling g' mk (Value.ref b :: As).toArray, t, U', L, hT, X', hL, e1, e2, hq, st⟩
  · dsimp only [Pt.U, Pt.locs, Pt.cells, Pt.slots] at X' e1 e2 h1 h2 h3 st hcl
    subst h1; subst h2; subst h3
    exact Or.inr ⟨q, (T.setVm vm₁).calling g' mk (Value.ref b :: As).toArray, t, U', L, E, ce, hT, X', hL, e1, e2, hq, hce, hcv, vx_cls hW₁ hcl, st⟩
theorem vx_runSX {hh : List (Nat × Nat × Nat × Nat)} (S : CallFix p m c cc nL s args Ts own) (hM : vx_Met l y ws rm Pc Qc XC mc ms free) (cw : vx_CSW R s args own index y bytes maxL ret hh ws rm mc ms n) (hp : PreS s H Pc As)
    (hg : g.method = m) (hn : As.length = n) (hsize : g.locals.size = nL) (hstack : g.stack = As.reverse ++ rest) (hW : 2 * g.monitorRoom + (rest.map fun v => v.category).sum ≤ 8) (hdg : decode cc g.pc = .ok (.invokestatic index, 3)) (hf : cells + mc ≤ R.cells ∧ slots + ms ≤ R.slots) :
    vx_Run p l e R s m args below meth c H locs cells slots mc ms g rest (Qc As.toArray) XC free := by
  obtain ⟨⟨hrc, hrs, hfr, hlo, hws, hcw⟩, hcode, hini, hy, hlen, hl, hstt⟩ := cw
  have hK : vx_Back l R p e below s args y 3 8 (PreOf R mc ms Pc) (PostOf Qc mc ms free) (vx_Post XC mc ms free) := vx_backW (hh := hh) (bytes := bytes) (maxL := maxL) (ret := ret) hM hp.1 hrc hrs hfr hlo hws hcw (fun a' U hW => word_at hW (Or.inl (by first | rfl | simp [Cond.onTables, Cond.keeps, Cond.steady])) hini)
  obtain ⟨hx, hb, hml, ho, -⟩ := S
  intro T hT X
  rcases vx_callSX X hx (hh := hh) (bytes := bytes) (maxL := maxL) (ret := ret) ho hl hstt hini hcode hy hK hg (hsize.trans hml.symm) (argsL := As) (rest := rest) (fun sig h => hn.trans (hlen sig h)) hstack hW (by rw [hb]; exact hdg)
    (fun vm₁ hW₁ => ⟨hf.1, hf.2, hp.2 (T.setVm vm₁) hT hW₁⟩) with ⟨v, vm₁, ⟨U', l2, c2, s2⟩, hW₁, X', ⟨g', mk, t, L, e1, e2, hq, h1, hL, h2, h3⟩, st⟩ | ⟨q, vm₁, ⟨U', l2, c2, s2⟩, hW₁, X', ⟨g', mk, t, L, E, ce, e1, e2, hq, hce, hcv, hcl, h1, hL, h2, h3⟩, st⟩
  · dsimp only [Pt.U, Pt.locs, Pt.cells, Pt.slots] at X' e1 e2 h1 h2 h3 st
    subst h1; subst h2; subst h3
    exact Or.inl ⟨v, (T.setVm vm₁).calling g' mk As.toArray, t, U', L, hT, X', hL, e1, e2, hq, st⟩
  · dsimp only [Pt.U, Pt.locs, Pt.cells, Pt.slots] at X' e1 e2 h1 h2 h3 st hcl
    subst h1; subst h2; subst h3
    exact Or.inr ⟨q, (T.setVm vm₁).calling g' mk As.toArray, t, U', L, E, ce, hT, X', hL, e1, e2, hq, hce, hcv, vx_cls hW₁ hcl, st⟩
end
end VXH
theorem vx_ofWH {l : Launch} {y : MethodName} {ws ws' : List Cond} {rm : Room} {Pc : Array Value → State → Prop} {Qc : Array Value → State → Outcome → State → Prop} {XC : String → State → State → Prop} {mc ms : Nat} {free : Addr → Prop} {cc : ByteArray} {maxL : Nat} {ret : Option FieldType} {hh : List (Nat × Nat × Nat × Nat)}
    (hy : plainName y.cls = true) (hw : ws = Cond.codeWith y cc maxL ret hh :: ws')
    (body : ∀ p e s m args below meth c s₁, BodyLoose p l y (headSpec ws rm) cc maxL ret e s m args below meth c s₁ → c.maxLocals = maxL → Pc args s →
      W p l e (headSpec ws rm).room s m args below meth c s.heap [] 0 0 (vx_MQ below Qc XC args s mc ms free) (entryFrame m args maxL)) : vx_Met l y ws rm Pc Qc XC mc ms free := by
  refine MetFree.of_bodyS (code := cc) (maxLocals := maxL) (ret := ret) hy ?_ ?_
  · intro args s m h hn
    obtain ⟨m9, meth, c, hn9, h1, h2, h3, h4, -, h5, h6, -⟩ := Cond.codeWith_spec (atoms_spec (ws := ws) h _ (by rw [hw]; exact List.mem_cons_self))
    cases hn.symm.trans hn9
    exact ⟨meth, c, h1, h2, h3, h4, h5, h6⟩
  · intro p e s m args below meth c s₁ B hml hP _
    have hh0 : s₁.heap = s.heap := by rw [B.state]; rfl
    obtain ⟨t, a1, o, b1, b2, b3⟩ := body p e s m args below meth c s₁ B hml hP s₁ hh0 (Stand.of_body B)
    exact ⟨t, o, a1, b1, b2, b3⟩
/-! ===== END ===== -/
end
section
def RX0 : String := "StitchBanner$Banner"
def TX0 : u_T := fun k => match k with
  | 0 => ("StitchBanner$Banner", "columns", "I", true)
  | 1 => ("StitchBanner$Banner", "limit", "I", true)
  | 2 => ("StitchBanner$Banner", "due", "I", true)
  | 3 => ("StitchBanner$Banner", "levels", "LStitchBanner$Dots;", true)
  | 4 => ("StitchBanner$Banner", "laid", "LStitchBanner$Dots;", true)
  | 5 => ("StitchBanner$Banner", "parts", "[LStitchBanner$Strip;", true)
  | 6 => ("StitchBanner$Banner", "stripCount", "I", true)
  | _ => ("StitchBanner$Banner", "inkTaken", "I", false)
def tyX0 : Nat → FieldType := fun k => match k with
  | 0 => .int
  | 1 => .int
  | 2 => .int
  | 3 => .object "StitchBanner$Dots"
  | 4 => .object "StitchBanner$Dots"
  | 5 => .array (.object "StitchBanner$Strip")
  | 6 => .int
  | _ => .int
abbrev wsX00 : List Cond := u_ws RX0 TX0 8
theorem nmX0 : ∀ a, a < 8 → ∀ b, b < 8 → a ≠ b → (TX0 a).2.1 ≠ (TX0 b).2.1 := by decide +kernel
theorem tyX0_ok : ∀ k, k < 8 → parseFieldDescriptor (TX0 k).2.2.1 = some (tyX0 k) := by decide +kernel
abbrev cX0_init : ByteArray := prog_2_method_1_code
def yX0_init : MethodName := ⟨RX0, "<init>", "(IIIII)V"⟩
abbrev cX0_hasColumn : ByteArray := prog_2_method_2_code
def yX0_hasColumn : MethodName := ⟨RX0, "hasColumn", "(I)Z"⟩
abbrev cX0_stripOf : ByteArray := prog_2_method_3_code
def yX0_stripOf : MethodName := ⟨RX0, "stripOf", "(I)LStitchBanner$Strip;"⟩
abbrev cX0_setLevels : ByteArray := prog_2_method_4_code
def yX0_setLevels : MethodName := ⟨RX0, "setLevels", "(IIII)I"⟩
abbrev cX0_share : ByteArray := prog_2_method_5_code
def yX0_share : MethodName := ⟨RX0, "share", "(LStitchBanner$Strip;II)I"⟩
abbrev cX0_firstWaitingFor : ByteArray := prog_2_method_6_code
def yX0_firstWaitingFor : MethodName := ⟨RX0, "firstWaitingFor", "(I)LStitchBanner$Strip;"⟩
abbrev cX0_layDot : ByteArray := prog_2_method_7_code
def yX0_layDot : MethodName := ⟨RX0, "layDot", "(LStitchBanner$Strip;III)V"⟩
abbrev cX0_inkAt : ByteArray := prog_2_method_8_code
def yX0_inkAt : MethodName := ⟨RX0, "inkAt", "(II)I"⟩
abbrev cX0_spiltDots : ByteArray := prog_2_method_9_code
def yX0_spiltDots : MethodName := ⟨RX0, "spiltDots", "()I"⟩
abbrev cX0_errorAt : ByteArray := prog_2_method_10_code
def yX0_errorAt : MethodName := ⟨RX0, "errorAt", "(II)I"⟩
abbrev cX0_errorSum : ByteArray := prog_2_method_11_code
def yX0_errorSum : MethodName := ⟨RX0, "errorSum", "()I"⟩
abbrev cX0_seamError : ByteArray := prog_2_method_12_code
def yX0_seamError : MethodName := ⟨RX0, "seamError", "(LStitchBanner$Strip;LStitchBanner$Strip;)I"⟩
def RX1 : String := "StitchBanner$Dots"
def TX1 : u_T := fun k => match k with
  | _ => ("StitchBanner$Dots", "values", "[I", true)
def tyX1 : Nat → FieldType := fun k => match k with
  | _ => .array .int
abbrev wsX10 : List Cond := u_ws RX1 TX1 1
theorem nmX1 : ∀ a, a < 1 → ∀ b, b < 1 → a ≠ b → (TX1 a).2.1 ≠ (TX1 b).2.1 := by decide +kernel
theorem tyX1_ok : ∀ k, k < 1 → parseFieldDescriptor (TX1 k).2.2.1 = some (tyX1 k) := by decide +kernel
abbrev cX1_init : ByteArray := prog_3_method_1_code
def yX1_init : MethodName := ⟨RX1, "<init>", "()V"⟩
abbrev cX1_at : ByteArray := prog_3_method_2_code
def yX1_at : MethodName := ⟨RX1, "at", "(II)I"⟩
abbrev cX1_replace : ByteArray := prog_3_method_3_code
def yX1_replace : MethodName := ⟨RX1, "replace", "(III)I"⟩
abbrev cX1_placeOf : ByteArray := prog_3_method_4_code
def yX1_placeOf : MethodName := ⟨RX1, "placeOf", "(II)I"⟩
def RX2 : String := "StitchBanner$Printer"
def TX2 : u_T := fun k => match k with
  | 0 => ("StitchBanner$Printer", "gain", "I", false)
  | 1 => ("StitchBanner$Printer", "correction", "I", false)
  | 2 => ("StitchBanner$Printer", "blocked", "[Z", true)
  | 3 => ("StitchBanner$Printer", "doses", "[I", true)
  | 4 => ("StitchBanner$Printer", "inkUsed", "I", false)
  | 5 => ("StitchBanner$Printer", "waiting", "I", false)
  | 6 => ("StitchBanner$Printer", "banner", "LStitchBanner$Banner;", false)
  | 7 => ("StitchBanner$Printer", "strip", "LStitchBanner$Strip;", false)
  | 8 => ("StitchBanner$Printer", "bannerNumber", "I", false)
  | _ => ("StitchBanner$Printer", "ticksLeft", "I", false)
def tyX2 : Nat → FieldType := fun k => match k with
  | 0 => .int
  | 1 => .int
  | 2 => .array .boolean
  | 3 => .array .int
  | 4 => .int
  | 5 => .int
  | 6 => .object "StitchBanner$Banner"
  | 7 => .object "StitchBanner$Strip"
  | 8 => .int
  | _ => .int
abbrev wsX20 : List Cond := u_ws RX2 TX2 10
theorem nmX2 : ∀ a, a < 10 → ∀ b, b < 10 → a ≠ b → (TX2 a).2.1 ≠ (TX2 b).2.1 := by decide +kernel
theorem tyX2_ok : ∀ k, k < 10 → parseFieldDescriptor (TX2 k).2.2.1 = some (tyX2 k) := by decide +kernel
abbrev cX2_init : ByteArray := prog_4_method_1_code
def yX2_init : MethodName := ⟨RX2, "<init>", "()V"⟩
abbrev cX2_isPrinting : ByteArray := prog_4_method_2_code
def yX2_isPrinting : MethodName := ⟨RX2, "isPrinting", "()Z"⟩
abbrev cX2_correctByGain : ByteArray := prog_4_method_3_code
def yX2_correctByGain : MethodName := ⟨RX2, "correctByGain", "()I"⟩
abbrev cX2_blockNozzle : ByteArray := prog_4_method_4_code
def yX2_blockNozzle : MethodName := ⟨RX2, "blockNozzle", "(I)V"⟩
abbrev cX2_freeNozzles : ByteArray := prog_4_method_5_code
def yX2_freeNozzles : MethodName := ⟨RX2, "freeNozzles", "()V"⟩
abbrev cX2_blockedCount : ByteArray := prog_4_method_6_code
def yX2_blockedCount : MethodName := ⟨RX2, "blockedCount", "()I"⟩
abbrev cX2_isBlocked : ByteArray := prog_4_method_7_code
def yX2_isBlocked : MethodName := ⟨RX2, "isBlocked", "(I)Z"⟩
abbrev cX2_setDose : ByteArray := prog_4_method_8_code
def yX2_setDose : MethodName := ⟨RX2, "setDose", "(II)V"⟩
abbrev cX2_doseOf : ByteArray := prog_4_method_9_code
def yX2_doseOf : MethodName := ⟨RX2, "doseOf", "(I)I"⟩
abbrev cX2_doseHeldBack : ByteArray := prog_4_method_10_code
def yX2_doseHeldBack : MethodName := ⟨RX2, "doseHeldBack", "(I)I"⟩
abbrev cX2_laidInRow : ByteArray := prog_4_method_11_code
def yX2_laidInRow : MethodName := ⟨RX2, "laidInRow", "(I)I"⟩
abbrev cX2_start : ByteArray := prog_4_method_12_code
def yX2_start : MethodName := ⟨RX2, "start", "(LStitchBanner$Banner;LStitchBanner$Strip;I)V"⟩
abbrev cX2_endsStrip : ByteArray := prog_4_method_13_code
def yX2_endsStrip : MethodName := ⟨RX2, "endsStrip", "(I)Z"⟩
abbrev cX2_layStrip : ByteArray := prog_4_method_14_code
def yX2_layStrip : MethodName := ⟨RX2, "layStrip", "(LStitchBanner$Banner;LStitchBanner$Strip;)I"⟩
def RX3 : String := "StitchBanner$Strip"
def TX3 : u_T := fun k => match k with
  | 0 => ("StitchBanner$Strip", "number", "I", true)
  | 1 => ("StitchBanner$Strip", "first", "I", true)
  | 2 => ("StitchBanner$Strip", "end", "I", true)
  | 3 => ("StitchBanner$Strip", "leftEnd", "I", true)
  | 4 => ("StitchBanner$Strip", "rightStart", "I", true)
  | 5 => ("StitchBanner$Strip", "laid", "LStitchBanner$Dots;", true)
  | 6 => ("StitchBanner$Strip", "queue", "I", false)
  | 7 => ("StitchBanner$Strip", "isPrinting", "Z", false)
  | _ => ("StitchBanner$Strip", "dryTime", "I", false)
def tyX3 : Nat → FieldType := fun k => match k with
  | 0 => .int
  | 1 => .int
  | 2 => .int
  | 3 => .int
  | 4 => .int
  | 5 => .object "StitchBanner$Dots"
  | 6 => .int
  | 7 => .boolean
  | _ => .int
abbrev wsX30 : List Cond := u_ws RX3 TX3 9
theorem nmX3 : ∀ a, a < 9 → ∀ b, b < 9 → a ≠ b → (TX3 a).2.1 ≠ (TX3 b).2.1 := by decide +kernel
theorem tyX3_ok : ∀ k, k < 9 → parseFieldDescriptor (TX3 k).2.2.1 = some (tyX3 k) := by decide +kernel
abbrev cX3_init : ByteArray := prog_5_method_1_code
def yX3_init : MethodName := ⟨RX3, "<init>", "(IIIII)V"⟩
abbrev cX3_wasPrinted : ByteArray := prog_5_method_2_code
def yX3_wasPrinted : MethodName := ⟨RX3, "wasPrinted", "()Z"⟩
abbrev cX3_shareOf : ByteArray := prog_5_method_3_code
def yX3_shareOf : MethodName := ⟨RX3, "shareOf", "(II)I"⟩
def RX4 : String := "StitchBanner"
def TX4 : u_T := fun k => match k with
  | 0 => ("StitchBanner", "banners", "[LStitchBanner$Banner;", true)
  | 1 => ("StitchBanner", "printers", "[LStitchBanner$Printer;", true)
  | 2 => ("StitchBanner", "bannerCount", "I", false)
  | _ => ("StitchBanner", "time", "I", false)
def tyX4 : Nat → FieldType := fun k => match k with
  | 0 => .array (.object "StitchBanner$Banner")
  | 1 => .array (.object "StitchBanner$Printer")
  | 2 => .int
  | _ => .int
abbrev wsX40 : List Cond := u_ws RX4 TX4 4
theorem nmX4 : ∀ a, a < 4 → ∀ b, b < 4 → a ≠ b → (TX4 a).2.1 ≠ (TX4 b).2.1 := by decide +kernel
theorem tyX4_ok : ∀ k, k < 4 → parseFieldDescriptor (TX4 k).2.2.1 = some (tyX4 k) := by decide +kernel
abbrev cX4_init : ByteArray := prog_1_method_1_code
def yX4_init : MethodName := ⟨RX4, "<init>", "()V"⟩
abbrev cX4_begin : ByteArray := prog_1_method_2_code
def yX4_begin : MethodName := ⟨RX4, "begin", "(IIIII)I"⟩
abbrev cX4_fill : ByteArray := prog_1_method_3_code
def yX4_fill : MethodName := ⟨RX4, "fill", "(IIIII)I"⟩
abbrev cX4_strips : ByteArray := prog_1_method_4_code
def yX4_strips : MethodName := ⟨RX4, "strips", "(I)I"⟩
abbrev cX4_toLay : ByteArray := prog_1_method_5_code
def yX4_toLay : MethodName := ⟨RX4, "toLay", "(IIII)I"⟩
abbrev cX4_setGain : ByteArray := prog_1_method_6_code
def yX4_setGain : MethodName := ⟨RX4, "setGain", "(II)I"⟩
abbrev cX4_match : ByteArray := prog_1_method_7_code
def yX4_match : MethodName := ⟨RX4, "match", "(I)I"⟩
abbrev cX4_block : ByteArray := prog_1_method_8_code
def yX4_block : MethodName := ⟨RX4, "block", "(II)I"⟩
abbrev cX4_clean : ByteArray := prog_1_method_9_code
def yX4_clean : MethodName := ⟨RX4, "clean", "(I)I"⟩
abbrev cX4_patch : ByteArray := prog_1_method_10_code
def yX4_patch : MethodName := ⟨RX4, "patch", "(III)I"⟩
abbrev cX4_put : ByteArray := prog_1_method_11_code
def yX4_put : MethodName := ⟨RX4, "put", "(III)I"⟩
abbrev cX4_pass : ByteArray := prog_1_method_12_code
def yX4_pass : MethodName := ⟨RX4, "pass", "(I)I"⟩
abbrev cX4_prints : ByteArray := prog_1_method_13_code
def yX4_prints : MethodName := ⟨RX4, "prints", "(I)I"⟩
abbrev cX4_dry : ByteArray := prog_1_method_14_code
def yX4_dry : MethodName := ⟨RX4, "dry", "(II)I"⟩
abbrev cX4_ink : ByteArray := prog_1_method_15_code
def yX4_ink : MethodName := ⟨RX4, "ink", "(III)I"⟩
abbrev cX4_spilt : ByteArray := prog_1_method_16_code
def yX4_spilt : MethodName := ⟨RX4, "spilt", "(I)I"⟩
abbrev cX4_used : ByteArray := prog_1_method_17_code
def yX4_used : MethodName := ⟨RX4, "used", "(ZI)I"⟩
abbrev cX4_seam : ByteArray := prog_1_method_18_code
def yX4_seam : MethodName := ⟨RX4, "seam", "(II)I"⟩
abbrev cX4_meanError : ByteArray := prog_1_method_19_code
def yX4_meanError : MethodName := ⟨RX4, "meanError", "(I)F"⟩
abbrev cX4_startIdlePrinters : ByteArray := prog_1_method_20_code
def yX4_startIdlePrinters : MethodName := ⟨RX4, "startIdlePrinters", "()V"⟩
abbrev cX4_takeFirstWaiting : ByteArray := prog_1_method_21_code
def yX4_takeFirstWaiting : MethodName := ⟨RX4, "takeFirstWaiting", "(LStitchBanner$Printer;I)V"⟩
abbrev cX4_endTick : ByteArray := prog_1_method_22_code
def yX4_endTick : MethodName := ⟨RX4, "endTick", "()I"⟩
abbrev cX4_bannerAt : ByteArray := prog_1_method_23_code
def yX4_bannerAt : MethodName := ⟨RX4, "bannerAt", "(I)LStitchBanner$Banner;"⟩
abbrev cX4_printerAt : ByteArray := prog_1_method_24_code
def yX4_printerAt : MethodName := ⟨RX4, "printerAt", "(I)LStitchBanner$Printer;"⟩
abbrev cX4_stripAt : ByteArray := prog_1_method_25_code
def yX4_stripAt : MethodName := ⟨RX4, "stripAt", "(LStitchBanner$Banner;I)LStitchBanner$Strip;"⟩
abbrev cX4_isRow : ByteArray := prog_1_method_26_code
def yX4_isRow : MethodName := ⟨RX4, "isRow", "(I)Z"⟩
abbrev cX4_isWithin : ByteArray := prog_1_method_27_code
def yX4_isWithin : MethodName := ⟨RX4, "isWithin", "(III)Z"⟩
def RX5 : String := "StitchBannerModel"
def TX5 : u_T := fun k => match k with
  | 0 => ("StitchBannerModel", "time", "I", false)
  | 1 => ("StitchBannerModel", "banners", "I", false)
  | 2 => ("StitchBannerModel", "columns", "[I", true)
  | 3 => ("StitchBannerModel", "width", "[I", true)
  | 4 => ("StitchBannerModel", "overlap", "[I", true)
  | 5 => ("StitchBannerModel", "limit", "[I", true)
  | 6 => ("StitchBannerModel", "due", "[I", true)
  | 7 => ("StitchBannerModel", "level", "[I", true)
  | 8 => ("StitchBannerModel", "laid", "[I", true)
  | 9 => ("StitchBannerModel", "queue", "[I", true)
  | 10 => ("StitchBannerModel", "dry", "[I", true)
  | 11 => ("StitchBannerModel", "taken", "[I", true)
  | 12 => ("StitchBannerModel", "gain", "[I", true)
  | 13 => ("StitchBannerModel", "correction", "[I", true)
  | 14 => ("StitchBannerModel", "isBlocked", "[Z", true)
  | 15 => ("StitchBannerModel", "used", "[I", true)
  | 16 => ("StitchBannerModel", "prints", "[I", true)
  | 17 => ("StitchBannerModel", "left", "[I", true)
  | 18 => ("StitchBannerModel", "wanted", "[I", true)
  | _ => ("StitchBannerModel", "thrown", "I", false)
def tyX5 : Nat → FieldType := fun k => match k with
  | 0 => .int
  | 1 => .int
  | 2 => .array .int
  | 3 => .array .int
  | 4 => .array .int
  | 5 => .array .int
  | 6 => .array .int
  | 7 => .array .int
  | 8 => .array .int
  | 9 => .array .int
  | 10 => .array .int
  | 11 => .array .int
  | 12 => .array .int
  | 13 => .array .int
  | 14 => .array .boolean
  | 15 => .array .int
  | 16 => .array .int
  | 17 => .array .int
  | 18 => .array .int
  | _ => .int
abbrev wsX50 : List Cond := u_ws RX5 TX5 20
theorem nmX5 : ∀ a, a < 20 → ∀ b, b < 20 → a ≠ b → (TX5 a).2.1 ≠ (TX5 b).2.1 := by decide +kernel
theorem tyX5_ok : ∀ k, k < 20 → parseFieldDescriptor (TX5 k).2.2.1 = some (tyX5 k) := by decide +kernel
abbrev cX5_init : ByteArray := prog_7_method_1_code
def yX5_init : MethodName := ⟨RX5, "<init>", "()V"⟩
abbrev cX5_thrown : ByteArray := prog_7_method_2_code
def yX5_thrown : MethodName := ⟨RX5, "thrown", "()I"⟩
abbrev cX5_fails : ByteArray := prog_7_method_3_code
def yX5_fails : MethodName := ⟨RX5, "fails", "(I)Z"⟩
abbrev cX5_isIn : ByteArray := prog_7_method_4_code
def yX5_isIn : MethodName := ⟨RX5, "isIn", "(III)Z"⟩
abbrev cX5_isBanner : ByteArray := prog_7_method_5_code
def yX5_isBanner : MethodName := ⟨RX5, "isBanner", "(I)Z"⟩
abbrev cX5_isRow : ByteArray := prog_7_method_6_code
def yX5_isRow : MethodName := ⟨RX5, "isRow", "(I)Z"⟩
abbrev cX5_isPrinter : ByteArray := prog_7_method_7_code
def yX5_isPrinter : MethodName := ⟨RX5, "isPrinter", "(I)Z"⟩
abbrev cX5_isStrip : ByteArray := prog_7_method_8_code
def yX5_isStrip : MethodName := ⟨RX5, "isStrip", "(II)Z"⟩
abbrev cX5_isDot : ByteArray := prog_7_method_9_code
def yX5_isDot : MethodName := ⟨RX5, "isDot", "(III)Z"⟩
abbrev cX5_dot : ByteArray := prog_7_method_10_code
def yX5_dot : MethodName := ⟨RX5, "dot", "(III)I"⟩
abbrev cX5_first : ByteArray := prog_7_method_11_code
def yX5_first : MethodName := ⟨RX5, "first", "(II)I"⟩
abbrev cX5_end : ByteArray := prog_7_method_12_code
def yX5_end : MethodName := ⟨RX5, "end", "(II)I"⟩
abbrev cX5_stripsOf : ByteArray := prog_7_method_13_code
def yX5_stripsOf : MethodName := ⟨RX5, "stripsOf", "(I)I"⟩
abbrev cX5_has : ByteArray := prog_7_method_14_code
def yX5_has : MethodName := ⟨RX5, "has", "(III)Z"⟩
abbrev cX5_begin : ByteArray := prog_7_method_15_code
def yX5_begin : MethodName := ⟨RX5, "begin", "(IIIII)I"⟩
abbrev cX5_fill : ByteArray := prog_7_method_16_code
def yX5_fill : MethodName := ⟨RX5, "fill", "(IIIII)I"⟩
abbrev cX5_strips : ByteArray := prog_7_method_17_code
def yX5_strips : MethodName := ⟨RX5, "strips", "(I)I"⟩
abbrev cX5_lays : ByteArray := prog_7_method_18_code
def yX5_lays : MethodName := ⟨RX5, "lays", "(IIII)I"⟩
abbrev cX5_toLay : ByteArray := prog_7_method_19_code
def yX5_toLay : MethodName := ⟨RX5, "toLay", "(IIII)I"⟩
abbrev cX5_setGain : ByteArray := prog_7_method_20_code
def yX5_setGain : MethodName := ⟨RX5, "setGain", "(II)I"⟩
abbrev cX5_match : ByteArray := prog_7_method_21_code
def yX5_match : MethodName := ⟨RX5, "match", "(I)I"⟩
abbrev cX5_blocked : ByteArray := prog_7_method_22_code
def yX5_blocked : MethodName := ⟨RX5, "blocked", "(I)I"⟩
abbrev cX5_block : ByteArray := prog_7_method_23_code
def yX5_block : MethodName := ⟨RX5, "block", "(II)I"⟩
abbrev cX5_clean : ByteArray := prog_7_method_24_code
def yX5_clean : MethodName := ⟨RX5, "clean", "(I)I"⟩
abbrev cX5_wants : ByteArray := prog_7_method_25_code
def yX5_wants : MethodName := ⟨RX5, "wants", "(III)V"⟩
abbrev cX5_isOff : ByteArray := prog_7_method_26_code
def yX5_isOff : MethodName := ⟨RX5, "isOff", "(II)Z"⟩
abbrev cX5_nozzle : ByteArray := prog_7_method_27_code
def yX5_nozzle : MethodName := ⟨RX5, "nozzle", "(II)I"⟩
abbrev cX5_patch : ByteArray := prog_7_method_28_code
def yX5_patch : MethodName := ⟨RX5, "patch", "(III)I"⟩
abbrev cX5_isPrinting : ByteArray := prog_7_method_29_code
def yX5_isPrinting : MethodName := ⟨RX5, "isPrinting", "(I)Z"⟩
abbrev cX5_put : ByteArray := prog_7_method_30_code
def yX5_put : MethodName := ⟨RX5, "put", "(III)I"⟩
abbrev cX5_takes : ByteArray := prog_7_method_31_code
def yX5_takes : MethodName := ⟨RX5, "takes", "(I)V"⟩
abbrev cX5_place : ByteArray := prog_7_method_32_code
def yX5_place : MethodName := ⟨RX5, "place", "(IIII)I"⟩
abbrev cX5_finishes : ByteArray := prog_7_method_33_code
def yX5_finishes : MethodName := ⟨RX5, "finishes", "(I)V"⟩
abbrev cX5_goesOn : ByteArray := prog_7_method_34_code
def yX5_goesOn : MethodName := ⟨RX5, "goesOn", "()I"⟩
abbrev cX5_pass : ByteArray := prog_7_method_35_code
def yX5_pass : MethodName := ⟨RX5, "pass", "(I)I"⟩
abbrev cX5_prints : ByteArray := prog_7_method_36_code
def yX5_prints : MethodName := ⟨RX5, "prints", "(I)I"⟩
abbrev cX5_dry : ByteArray := prog_7_method_37_code
def yX5_dry : MethodName := ⟨RX5, "dry", "(II)I"⟩
abbrev cX5_all : ByteArray := prog_7_method_38_code
def yX5_all : MethodName := ⟨RX5, "all", "(III)I"⟩
abbrev cX5_inkOf : ByteArray := prog_7_method_39_code
def yX5_inkOf : MethodName := ⟨RX5, "inkOf", "(III)I"⟩
abbrev cX5_ink : ByteArray := prog_7_method_40_code
def yX5_ink : MethodName := ⟨RX5, "ink", "(III)I"⟩
abbrev cX5_spilt : ByteArray := prog_7_method_41_code
def yX5_spilt : MethodName := ⟨RX5, "spilt", "(I)I"⟩
abbrev cX5_used : ByteArray := prog_7_method_42_code
def yX5_used : MethodName := ⟨RX5, "used", "(ZI)I"⟩
abbrev cX5_error : ByteArray := prog_7_method_43_code
def yX5_error : MethodName := ⟨RX5, "error", "(III)I"⟩
abbrev cX5_seam : ByteArray := prog_7_method_44_code
def yX5_seam : MethodName := ⟨RX5, "seam", "(II)I"⟩
abbrev cX5_meanError : ByteArray := prog_7_method_45_code
def yX5_meanError : MethodName := ⟨RX5, "meanError", "(I)F"⟩
def RL : String := "StitchBannerLaw"
abbrev cL_begin : ByteArray := method_3_code
def yL_begin : MethodName := ⟨RL, "begin", "(LStitchBanner;IIIII[J)I"⟩
abbrev cL_fill : ByteArray := method_4_code
def yL_fill : MethodName := ⟨RL, "fill", "(LStitchBanner;IIIII[J)I"⟩
abbrev cL_strips : ByteArray := method_5_code
def yL_strips : MethodName := ⟨RL, "strips", "(LStitchBanner;I[J)I"⟩
abbrev cL_toLay : ByteArray := method_6_code
def yL_toLay : MethodName := ⟨RL, "toLay", "(LStitchBanner;IIII[J)I"⟩
abbrev cL_setGain : ByteArray := method_7_code
def yL_setGain : MethodName := ⟨RL, "setGain", "(LStitchBanner;II[J)I"⟩
abbrev cL_match : ByteArray := method_8_code
def yL_match : MethodName := ⟨RL, "match", "(LStitchBanner;I[J)I"⟩
abbrev cL_block : ByteArray := method_9_code
def yL_block : MethodName := ⟨RL, "block", "(LStitchBanner;II[J)I"⟩
abbrev cL_clean : ByteArray := method_10_code
def yL_clean : MethodName := ⟨RL, "clean", "(LStitchBanner;I[J)I"⟩
abbrev cL_patch : ByteArray := method_11_code
def yL_patch : MethodName := ⟨RL, "patch", "(LStitchBanner;III[J)I"⟩
abbrev cL_put : ByteArray := method_12_code
def yL_put : MethodName := ⟨RL, "put", "(LStitchBanner;III[J)I"⟩
abbrev cL_pass : ByteArray := method_13_code
def yL_pass : MethodName := ⟨RL, "pass", "(LStitchBanner;I[J)I"⟩
abbrev cL_prints : ByteArray := method_14_code
def yL_prints : MethodName := ⟨RL, "prints", "(LStitchBanner;I[J)I"⟩
abbrev cL_dry : ByteArray := method_15_code
def yL_dry : MethodName := ⟨RL, "dry", "(LStitchBanner;II[J)I"⟩
abbrev cL_ink : ByteArray := method_16_code
def yL_ink : MethodName := ⟨RL, "ink", "(LStitchBanner;III[J)I"⟩
abbrev cL_spilt : ByteArray := method_17_code
def yL_spilt : MethodName := ⟨RL, "spilt", "(LStitchBanner;I[J)I"⟩
abbrev cL_used : ByteArray := method_18_code
def yL_used : MethodName := ⟨RL, "used", "(LStitchBanner;ZI[J)I"⟩
abbrev cL_seam : ByteArray := method_19_code
def yL_seam : MethodName := ⟨RL, "seam", "(LStitchBanner;II[J)I"⟩
abbrev cL_meanError : ByteArray := method_20_code
def yL_meanError : MethodName := ⟨RL, "meanError", "(LStitchBanner;I[D)I"⟩
abbrev cL_law : ByteArray := code
def yL_law : MethodName := ⟨RL, "law", "([I)Z"⟩
abbrev vwCl : List vw_C := [(RX0, TX0, 8), (RX1, TX1, 1), (RX2, TX2, 10), (RX3, TX3, 9), (RX4, TX4, 4), (RX5, TX5, 20)]
end
section
/-! The heap of this claim as maps: fields by (code, address), code = 32 * class + place; arrays by (address, index); kinds: 0..5 the classes of vwCl, 6 int[], 7 boolean[], 8 Banner[], 9 Printer[], 10 Strip[], 11 long[], 12 double[] -/
def warmW : Cond → Bool
  | .fieldLinkNest _ _ _ _ _ _ => true
  | .methodLinkNest _ _ _ _ => true
  | .castable _ _ => true
  | w => goodWord w
theorem warm_spec {w : Cond} (h : warmW w = true) {s U : State} {a a' : Array Value} (hW : s.WarmedH U.vm) (hb : w.before a s = true) : w.before a' U = true := by
  cases w <;> first
    | exact word_at hW (good_of_word h) hb
    | exact (va_Nw.warmF hW (va_Nw.of rfl hb)).use rfl
    | exact (va_Nw.warmM hW (va_Nw.of rfl hb)).use rfl
    | exact (va_Nw.warmC hW (va_Nw.of rfl hb)).use rfl
def T0 : List Cond := lw_tbl.filter warmW
theorem T0_warm {w : Cond} (h : w ∈ T0) {s U : State} {a a' : Array Value} (hW : s.WarmedH U.vm) (hb : w.before a s = true) : w.before a' U = true := warm_spec (List.mem_filter.mp h).2 hW hb
theorem T0_mem {w : Cond} {i : Nat} (h : lw_tbl[i]? = some w) (hw : warmW w = true) : w ∈ T0 := List.mem_filter.mpr ⟨List.mem_of_getElem? h, hw⟩
abbrev HS : Type := (Nat → Nat → Int32) × (Nat → Nat → Option Nat) × (Nat → Nat → Int32) × (Nat → Nat → Option Nat) × (Nat → Nat → Int64) × (Nat → Nat → UInt64) × (Nat → Nat) × (Nat → Nat) × List Nat
def gI (S : HS) (f a : Nat) : Int32 := S.1 f a
def gR (S : HS) (f a : Nat) : Option Nat := S.2.1 f a
def gA (S : HS) (a i : Nat) : Int32 := S.2.2.1 a i
def gQ (S : HS) (a i : Nat) : Option Nat := S.2.2.2.1 a i
def gJ (S : HS) (a i : Nat) : Int64 := S.2.2.2.2.1 a i
def gD (S : HS) (a i : Nat) : UInt64 := S.2.2.2.2.2.1 a i
def gK (S : HS) (a : Nat) : Nat := S.2.2.2.2.2.2.1 a
def gN (S : HS) (a : Nat) : Nat := S.2.2.2.2.2.2.2.1 a
def gL (S : HS) : List Nat := S.2.2.2.2.2.2.2.2
def sI (S : HS) (f a : Nat) (v : Int32) : HS := (fun g b => if g = f ∧ b = a then v else gI S g b, gR S, gA S, gQ S, gJ S, gD S, gK S, gN S, gL S)
def sR (S : HS) (f a : Nat) (v : Option Nat) : HS := (gI S, fun g b => if g = f ∧ b = a then v else gR S g b, gA S, gQ S, gJ S, gD S, gK S, gN S, gL S)
def sA (S : HS) (a i : Nat) (v : Int32) : HS := (gI S, gR S, fun b j => if b = a ∧ j = i then v else gA S b j, gQ S, gJ S, gD S, gK S, gN S, gL S)
def sQ (S : HS) (a i : Nat) (v : Option Nat) : HS := (gI S, gR S, gA S, fun b j => if b = a ∧ j = i then v else gQ S b j, gJ S, gD S, gK S, gN S, gL S)
def sJ (S : HS) (a i : Nat) (v : Int64) : HS := (gI S, gR S, gA S, gQ S, fun b j => if b = a ∧ j = i then v else gJ S b j, gD S, gK S, gN S, gL S)
def sD (S : HS) (a i : Nat) (v : UInt64) : HS := (gI S, gR S, gA S, gQ S, gJ S, fun b j => if b = a ∧ j = i then v else gD S b j, gK S, gN S, gL S)
def nw (S : HS) (k n a : Nat) : HS := (fun g b => if b = a then 0 else gI S g b, fun g b => if b = a then none else gR S g b, fun b j => if b = a then 0 else gA S b j, fun b j => if b = a then none else gQ S b j, fun b j => if b = a then 0 else gJ S b j, fun b j => if b = a then 0 else gD S b j, fun b => if b = a then k else gK S b, fun b => if b = a then n else gN S b, gL S ++ [a])

theorem gI_sI (S : HS) (f a : Nat) (v : Int32) (g b : Nat) : gI (sI S f a v) g b = if g = f ∧ b = a then v else gI S g b := rfl
theorem gR_sI (S : HS) (f a : Nat) (v : Int32) (g b : Nat) : gR (sI S f a v) g b = gR S g b := rfl
theorem gA_sI (S : HS) (f a : Nat) (v : Int32) (b j : Nat) : gA (sI S f a v) b j = gA S b j := rfl
theorem gQ_sI (S : HS) (f a : Nat) (v : Int32) (b j : Nat) : gQ (sI S f a v) b j = gQ S b j := rfl
theorem gJ_sI (S : HS) (f a : Nat) (v : Int32) (b j : Nat) : gJ (sI S f a v) b j = gJ S b j := rfl
theorem gD_sI (S : HS) (f a : Nat) (v : Int32) (b j : Nat) : gD (sI S f a v) b j = gD S b j := rfl
theorem gK_sI (S : HS) (f a : Nat) (v : Int32) (b : Nat) : gK (sI S f a v) b = gK S b := rfl
theorem gN_sI (S : HS) (f a : Nat) (v : Int32) (b : Nat) : gN (sI S f a v) b = gN S b := rfl
theorem gL_sI (S : HS) (f a : Nat) (v : Int32) : gL (sI S f a v) = gL S := rfl
theorem gI_sR (S : HS) (f a : Nat) (v : Option Nat) (g b : Nat) : gI (sR S f a v) g b = gI S g b := rfl
theorem gR_sR (S : HS) (f a : Nat) (v : Option Nat) (g b : Nat) : gR (sR S f a v) g b = if g = f ∧ b = a then v else gR S g b := rfl
theorem gA_sR (S : HS) (f a : Nat) (v : Option Nat) (b j : Nat) : gA (sR S f a v) b j = gA S b j := rfl
theorem gQ_sR (S : HS) (f a : Nat) (v : Option Nat) (b j : Nat) : gQ (sR S f a v) b j = gQ S b j := rfl
theorem gJ_sR (S : HS) (f a : Nat) (v : Option Nat) (b j : Nat) : gJ (sR S f a v) b j = gJ S b j := rfl
theorem gD_sR (S : HS) (f a : Nat) (v : Option Nat) (b j : Nat) : gD (sR S f a v) b j = gD S b j := rfl
theorem gK_sR (S : HS) (f a : Nat) (v : Option Nat) (b : Nat) : gK (sR S f a v) b = gK S b := rfl
theorem gN_sR (S : HS) (f a : Nat) (v : Option Nat) (b : Nat) : gN (sR S f a v) b = gN S b := rfl
theorem gL_sR (S : HS) (f a : Nat) (v : Option Nat) : gL (sR S f a v) = gL S := rfl
theorem gI_sA (S : HS) (a i : Nat) (v : Int32) (g b : Nat) : gI (sA S a i v) g b = gI S g b := rfl
theorem gR_sA (S : HS) (a i : Nat) (v : Int32) (g b : Nat) : gR (sA S a i v) g b = gR S g b := rfl
theorem gA_sA (S : HS) (a i : Nat) (v : Int32) (b j : Nat) : gA (sA S a i v) b j = if b = a ∧ j = i then v else gA S b j := rfl
theorem gQ_sA (S : HS) (a i : Nat) (v : Int32) (b j : Nat) : gQ (sA S a i v) b j = gQ S b j := rfl
theorem gJ_sA (S : HS) (a i : Nat) (v : Int32) (b j : Nat) : gJ (sA S a i v) b j = gJ S b j := rfl
theorem gD_sA (S : HS) (a i : Nat) (v : Int32) (b j : Nat) : gD (sA S a i v) b j = gD S b j := rfl
theorem gK_sA (S : HS) (a i : Nat) (v : Int32) (b : Nat) : gK (sA S a i v) b = gK S b := rfl
theorem gN_sA (S : HS) (a i : Nat) (v : Int32) (b : Nat) : gN (sA S a i v) b = gN S b := rfl
theorem gL_sA (S : HS) (a i : Nat) (v : Int32) : gL (sA S a i v) = gL S := rfl
theorem gI_sQ (S : HS) (a i : Nat) (v : Option Nat) (g b : Nat) : gI (sQ S a i v) g b = gI S g b := rfl
theorem gR_sQ (S : HS) (a i : Nat) (v : Option Nat) (g b : Nat) : gR (sQ S a i v) g b = gR S g b := rfl
theorem gA_sQ (S : HS) (a i : Nat) (v : Option Nat) (b j : Nat) : gA (sQ S a i v) b j = gA S b j := rfl
theorem gQ_sQ (S : HS) (a i : Nat) (v : Option Nat) (b j : Nat) : gQ (sQ S a i v) b j = if b = a ∧ j = i then v else gQ S b j := rfl
theorem gJ_sQ (S : HS) (a i : Nat) (v : Option Nat) (b j : Nat) : gJ (sQ S a i v) b j = gJ S b j := rfl
theorem gD_sQ (S : HS) (a i : Nat) (v : Option Nat) (b j : Nat) : gD (sQ S a i v) b j = gD S b j := rfl
theorem gK_sQ (S : HS) (a i : Nat) (v : Option Nat) (b : Nat) : gK (sQ S a i v) b = gK S b := rfl
theorem gN_sQ (S : HS) (a i : Nat) (v : Option Nat) (b : Nat) : gN (sQ S a i v) b = gN S b := rfl
theorem gL_sQ (S : HS) (a i : Nat) (v : Option Nat) : gL (sQ S a i v) = gL S := rfl
theorem gI_sJ (S : HS) (a i : Nat) (v : Int64) (g b : Nat) : gI (sJ S a i v) g b = gI S g b := rfl
theorem gR_sJ (S : HS) (a i : Nat) (v : Int64) (g b : Nat) : gR (sJ S a i v) g b = gR S g b := rfl
theorem gA_sJ (S : HS) (a i : Nat) (v : Int64) (b j : Nat) : gA (sJ S a i v) b j = gA S b j := rfl
theorem gQ_sJ (S : HS) (a i : Nat) (v : Int64) (b j : Nat) : gQ (sJ S a i v) b j = gQ S b j := rfl
theorem gJ_sJ (S : HS) (a i : Nat) (v : Int64) (b j : Nat) : gJ (sJ S a i v) b j = if b = a ∧ j = i then v else gJ S b j := rfl
theorem gD_sJ (S : HS) (a i : Nat) (v : Int64) (b j : Nat) : gD (sJ S a i v) b j = gD S b j := rfl
theorem gK_sJ (S : HS) (a i : Nat) (v : Int64) (b : Nat) : gK (sJ S a i v) b = gK S b := rfl
theorem gN_sJ (S : HS) (a i : Nat) (v : Int64) (b : Nat) : gN (sJ S a i v) b = gN S b := rfl
theorem gL_sJ (S : HS) (a i : Nat) (v : Int64) : gL (sJ S a i v) = gL S := rfl
theorem gI_sD (S : HS) (a i : Nat) (v : UInt64) (g b : Nat) : gI (sD S a i v) g b = gI S g b := rfl
theorem gR_sD (S : HS) (a i : Nat) (v : UInt64) (g b : Nat) : gR (sD S a i v) g b = gR S g b := rfl
theorem gA_sD (S : HS) (a i : Nat) (v : UInt64) (b j : Nat) : gA (sD S a i v) b j = gA S b j := rfl
theorem gQ_sD (S : HS) (a i : Nat) (v : UInt64) (b j : Nat) : gQ (sD S a i v) b j = gQ S b j := rfl
theorem gJ_sD (S : HS) (a i : Nat) (v : UInt64) (b j : Nat) : gJ (sD S a i v) b j = gJ S b j := rfl
theorem gD_sD (S : HS) (a i : Nat) (v : UInt64) (b j : Nat) : gD (sD S a i v) b j = if b = a ∧ j = i then v else gD S b j := rfl
theorem gK_sD (S : HS) (a i : Nat) (v : UInt64) (b : Nat) : gK (sD S a i v) b = gK S b := rfl
theorem gN_sD (S : HS) (a i : Nat) (v : UInt64) (b : Nat) : gN (sD S a i v) b = gN S b := rfl
theorem gL_sD (S : HS) (a i : Nat) (v : UInt64) : gL (sD S a i v) = gL S := rfl
theorem gI_nw (S : HS) (k n a : Nat) (g b : Nat) : gI (nw S k n a) g b = if b = a then 0 else gI S g b := rfl
theorem gR_nw (S : HS) (k n a : Nat) (g b : Nat) : gR (nw S k n a) g b = if b = a then none else gR S g b := rfl
theorem gA_nw (S : HS) (k n a : Nat) (b j : Nat) : gA (nw S k n a) b j = if b = a then 0 else gA S b j := rfl
theorem gQ_nw (S : HS) (k n a : Nat) (b j : Nat) : gQ (nw S k n a) b j = if b = a then none else gQ S b j := rfl
theorem gJ_nw (S : HS) (k n a : Nat) (b j : Nat) : gJ (nw S k n a) b j = if b = a then 0 else gJ S b j := rfl
theorem gD_nw (S : HS) (k n a : Nat) (b j : Nat) : gD (nw S k n a) b j = if b = a then 0 else gD S b j := rfl
theorem gK_nw (S : HS) (k n a : Nat) (b : Nat) : gK (nw S k n a) b = if b = a then k else gK S b := rfl
theorem gN_nw (S : HS) (k n a : Nat) (b : Nat) : gN (nw S k n a) b = if b = a then n else gN S b := rfl
theorem gL_nw (S : HS) (k n a : Nat) : gL (nw S k n a) = gL S ++ [a] := rfl
/-- which fields of a class are references -/
def fsh : Nat → List Bool
  | 0 => [false, false, false, true, true, true, false, false]
  | 1 => [true]
  | 2 => [false, false, true, true, false, false, true, true, false, false]
  | 3 => [false, false, false, false, false, true, false, false, false]
  | 4 => [true, true, false, false]
  | 5 => [false, false, true, true, true, true, true, true, true, true, true, true, true, true, true, true, true, true, true, false]
  | _ => []
def flds (k : Nat) (S : HS) (a : Nat) : List Value := (List.range (fsh k).length).map (fun j => if (fsh k).getD j false = true then va_rf (gR S (32 * k + j) a) else .int (gI S (32 * k + j) a))
def fs0 (k : Nat) : List Value := (fsh k).map (fun r => if r = true then .null else .int 0)
def cellOf (cs : Nat → ClassId) (S : HS) (a : Nat) : va_E :=
  if gK S a < 6 then .inr (gK S a, flds (gK S a) S a)
  else if gK S a < 8 then .inl (cs (gK S a), gN S a, .inl (gA S a))
  else if gK S a < 11 then .inl (cs (gK S a), gN S a, .inr (.inr (.inr (.inr (gQ S a)))))
  else if gK S a = 11 then .inl (cs (gK S a), gN S a, .inr (.inl (gJ S a)))
  else .inl (cs (gK S a), gN S a, .inr (.inr (.inr (.inl (gD S a)))))
abbrev tysOf (cs : Nat → ClassId) : List (ClassId × FieldType) := [(cs 6, .int), (cs 7, .boolean), (cs 8, .object RX0), (cs 9, .object RX2), (cs 10, .object RX3), (cs 11, .long), (cs 12, .double)]
theorem flds_len (k : Nat) (S : HS) (a : Nat) : (flds k S a).length = (fsh k).length := by simp [flds]
theorem flds_I {k j : Nat} {S : HS} {a : Nat} (h : (fsh k)[j]? = some false) : (flds k S a)[j]? = some (.int (gI S (32 * k + j) a)) := by
  have hj : j < (fsh k).length := (List.getElem?_eq_some_iff.mp h).1
  have hg : (fsh k)[j] = false := (List.getElem?_eq_some_iff.mp h).2
  simp [flds, hj, hg]
theorem flds_R {k j : Nat} {S : HS} {a : Nat} (h : (fsh k)[j]? = some true) : (flds k S a)[j]? = some (va_rf (gR S (32 * k + j) a)) := by
  have hj : j < (fsh k).length := (List.getElem?_eq_some_iff.mp h).1
  have hg : (fsh k)[j] = true := (List.getElem?_eq_some_iff.mp h).2
  simp [flds, hj, hg]
theorem flds_sI {k j : Nat} {S : HS} {a : Nat} {v : Int32} (h : (fsh k)[j]? = some false) : (flds k S a).set j (.int v) = flds k (sI S (32 * k + j) a v) a := by
  have hj : j < (fsh k).length := (List.getElem?_eq_some_iff.mp h).1
  have hg : (fsh k)[j] = false := (List.getElem?_eq_some_iff.mp h).2
  apply List.ext_getElem (by simp [flds])
  intro i h1 h2
  rw [List.getElem_set]
  by_cases hi : j = i
  · subst hi
    simp [flds, gI_sI, gR_sI, hj, hg]
  · have hi' : ¬ i = j := fun e => hi e.symm
    simp [flds, gI_sI, gR_sI, hi, hi']
theorem flds_sR {k j : Nat} {S : HS} {a : Nat} {v : Option Nat} (h : (fsh k)[j]? = some true) : (flds k S a).set j (va_rf v) = flds k (sR S (32 * k + j) a v) a := by
  have hj : j < (fsh k).length := (List.getElem?_eq_some_iff.mp h).1
  have hg : (fsh k)[j] = true := (List.getElem?_eq_some_iff.mp h).2
  apply List.ext_getElem (by simp [flds])
  intro i h1 h2
  rw [List.getElem_set]
  by_cases hi : j = i
  · subst hi
    simp [flds, gI_sR, gR_sR, hj, hg]
  · have hi' : ¬ i = j := fun e => hi e.symm
    simp [flds, gI_sR, gR_sR, hi, hi']
theorem cell_congr {cs : Nat → ClassId} {S T : HS} {b : Nat} (h1 : gK S b = gK T b) (h2 : gN S b = gN T b) (h3 : flds (gK T b) S b = flds (gK T b) T b) (h4 : gA S b = gA T b) (h5 : gQ S b = gQ T b) (h6 : gJ S b = gJ T b) (h7 : gD S b = gD T b) : cellOf cs S b = cellOf cs T b := by
  unfold cellOf
  rw [h1, h2, h3, h4, h5, h6, h7]
theorem flds_nI {k f a b : Nat} {S : HS} {v : Int32} (h : ¬ b = a) : flds k S b = flds k (sI S f a v) b := by
  unfold flds
  simp [gI_sI, gR_sI, h]
theorem flds_nR {k f a b : Nat} {S : HS} {v : Option Nat} (h : ¬ b = a) : flds k S b = flds k (sR S f a v) b := by
  unfold flds
  simp [gI_sR, gR_sR, h]
theorem cell_sI {cs : Nat → ClassId} {S : HS} {ci j a : Nat} {v : Int32} (hk : gK S a = ci) (h6 : ci < 6) (h : (fsh ci)[j]? = some false) (b : Nat) : va_up (cellOf cs S) a (.inr (ci, (flds ci S a).set j (.int v))) b = cellOf cs (sI S (32 * ci + j) a v) b := by
  by_cases hb : b = a
  · subst hb
    have e : cellOf cs (sI S (32 * ci + j) b v) b = .inr (ci, flds ci (sI S (32 * ci + j) b v) b) := by
      unfold cellOf
      rw [gK_sI, hk, if_pos h6]
    rw [e, ← flds_sI h]
    simp [va_up]
  · rw [show va_up (cellOf cs S) a (.inr (ci, (flds ci S a).set j (.int v))) b = cellOf cs S b from if_neg hb]
    exact cell_congr rfl rfl (flds_nI hb) rfl rfl rfl rfl
theorem cell_sR {cs : Nat → ClassId} {S : HS} {ci j a : Nat} {v : Option Nat} (hk : gK S a = ci) (h6 : ci < 6) (h : (fsh ci)[j]? = some true) (b : Nat) : va_up (cellOf cs S) a (.inr (ci, (flds ci S a).set j (va_rf v))) b = cellOf cs (sR S (32 * ci + j) a v) b := by
  by_cases hb : b = a
  · subst hb
    have e : cellOf cs (sR S (32 * ci + j) b v) b = .inr (ci, flds ci (sR S (32 * ci + j) b v) b) := by
      unfold cellOf
      rw [gK_sR, hk, if_pos h6]
    rw [e, ← flds_sR h]
    simp [va_up]
  · rw [show va_up (cellOf cs S) a (.inr (ci, (flds ci S a).set j (va_rf v))) b = cellOf cs S b from if_neg hb]
    exact cell_congr rfl rfl (flds_nR hb) rfl rfl rfl rfl
theorem cell_o {cs : Nat → ClassId} {S : HS} {ci a : Nat} (hk : gK S a = ci) (h6 : ci < 6) : cellOf cs S a = .inr (ci, flds ci S a) := by
  unfold cellOf
  rw [hk, if_pos h6]
theorem cell_i {cs : Nat → ClassId} {S : HS} {kd a : Nat} (hk : gK S a = kd) (h6 : 6 ≤ kd) (h8 : kd < 8) : cellOf cs S a = .inl (cs kd, gN S a, .inl (gA S a)) := by
  unfold cellOf
  rw [hk, if_neg (by omega), if_pos h8]
theorem cell_q {cs : Nat → ClassId} {S : HS} {kd a : Nat} (hk : gK S a = kd) (h6 : 8 ≤ kd) (h8 : kd < 11) : cellOf cs S a = .inl (cs kd, gN S a, .inr (.inr (.inr (.inr (gQ S a))))) := by
  unfold cellOf
  rw [hk, if_neg (by omega), if_neg (by omega), if_pos h8]
theorem cell_j {cs : Nat → ClassId} {S : HS} {a : Nat} (hk : gK S a = 11) : cellOf cs S a = .inl (cs 11, gN S a, .inr (.inl (gJ S a))) := by
  unfold cellOf
  rw [hk, if_neg (by omega), if_neg (by omega), if_neg (by omega), if_pos rfl]
theorem cell_d {cs : Nat → ClassId} {S : HS} {a : Nat} (hk : gK S a = 12) : cellOf cs S a = .inl (cs 12, gN S a, .inr (.inr (.inr (.inl (gD S a))))) := by
  unfold cellOf
  rw [hk, if_neg (by omega), if_neg (by omega), if_neg (by omega), if_neg (by omega)]
theorem cell_sA {cs : Nat → ClassId} {S : HS} {kd a i : Nat} {v : Int32} (hk : gK S a = kd) (h6 : 6 ≤ kd) (h8 : kd < 8) (b : Nat) : va_up (cellOf cs S) a (.inl (cs kd, gN S a, .inl (upd (gA S a) i v))) b = cellOf cs (sA S a i v) b := by
  by_cases hb : b = a
  · subst hb
    rw [cell_i (S := sA S b i v) (kd := kd) hk h6 h8, show gN (sA S b i v) b = gN S b from rfl, show gA (sA S b i v) b = upd (gA S b) i v from by funext j; rw [gA_sA]; simp [upd]]
    simp [va_up]
  · rw [show va_up (cellOf cs S) a (.inl (cs kd, gN S a, .inl (upd (gA S a) i v))) b = cellOf cs S b from if_neg hb]
    exact cell_congr rfl rfl rfl (by funext j; rw [gA_sA, if_neg (fun h => hb h.1)]) rfl rfl rfl
theorem cell_sQ {cs : Nat → ClassId} {S : HS} {kd a i : Nat} {v : Option Nat} (hk : gK S a = kd) (h6 : 8 ≤ kd) (h8 : kd < 11) (b : Nat) : va_up (cellOf cs S) a (.inl (cs kd, gN S a, .inr (.inr (.inr (.inr (va_up (gQ S a) i v)))))) b = cellOf cs (sQ S a i v) b := by
  by_cases hb : b = a
  · subst hb
    rw [cell_q (S := sQ S b i v) (kd := kd) hk h6 h8, show gN (sQ S b i v) b = gN S b from rfl, show gQ (sQ S b i v) b = va_up (gQ S b) i v from by funext j; rw [gQ_sQ]; simp [va_up]]
    simp [va_up]
  · rw [show va_up (cellOf cs S) a (.inl (cs kd, gN S a, .inr (.inr (.inr (.inr (va_up (gQ S a) i v)))))) b = cellOf cs S b from if_neg hb]
    exact cell_congr rfl rfl rfl rfl (by funext j; rw [gQ_sQ, if_neg (fun h => hb h.1)]) rfl rfl
theorem cell_sJ {cs : Nat → ClassId} {S : HS} {a i : Nat} {v : Int64} (hk : gK S a = 11) (b : Nat) : va_up (cellOf cs S) a (.inl (cs 11, gN S a, .inr (.inl (vp_updL (gJ S a) i v)))) b = cellOf cs (sJ S a i v) b := by
  by_cases hb : b = a
  · subst hb
    rw [cell_j (S := sJ S b i v) hk, show gN (sJ S b i v) b = gN S b from rfl, show gJ (sJ S b i v) b = vp_updL (gJ S b) i v from by funext j; rw [gJ_sJ]; simp [vp_updL]]
    simp [va_up]
  · rw [show va_up (cellOf cs S) a (.inl (cs 11, gN S a, .inr (.inl (vp_updL (gJ S a) i v)))) b = cellOf cs S b from if_neg hb]
    exact cell_congr rfl rfl rfl rfl rfl (by funext j; rw [gJ_sJ, if_neg (fun h => hb h.1)]) rfl
theorem cell_sD {cs : Nat → ClassId} {S : HS} {a i : Nat} {v : UInt64} (hk : gK S a = 12) (b : Nat) : va_up (cellOf cs S) a (.inl (cs 12, gN S a, .inr (.inr (.inr (.inl (vf_upd (gD S a) i v)))))) b = cellOf cs (sD S a i v) b := by
  by_cases hb : b = a
  · subst hb
    rw [cell_d (S := sD S b i v) hk, show gN (sD S b i v) b = gN S b from rfl, show gD (sD S b i v) b = vf_upd (gD S b) i v from by funext j; rw [gD_sD]; simp [vf_upd]]
    simp [va_up]
  · rw [show va_up (cellOf cs S) a (.inl (cs 12, gN S a, .inr (.inr (.inr (.inl (vf_upd (gD S a) i v)))))) b = cellOf cs S b from if_neg hb]
    exact cell_congr rfl rfl rfl rfl rfl rfl (by funext j; rw [gD_sD, if_neg (fun h => hb h.1)])
theorem cell_nn {cs : Nat → ClassId} {S : HS} {k n a b : Nat} (hb : ¬ b = a) : cellOf cs S b = cellOf cs (nw S k n a) b := by
  have f : ∀ c, flds c S b = flds c (nw S k n a) b := fun c => by
    unfold flds
    simp [gI_nw, gR_nw, hb]
  exact cell_congr (by rw [gK_nw, if_neg hb]) (by rw [gN_nw, if_neg hb]) (f _) (by funext j; rw [gA_nw, if_neg hb]) (by funext j; rw [gQ_nw, if_neg hb]) (by funext j; rw [gJ_nw, if_neg hb]) (by funext j; rw [gD_nw, if_neg hb])
theorem cell_no {cs : Nat → ClassId} {S : HS} {ci n a : Nat} (h6 : ci < 6) (b : Nat) : va_up (cellOf cs S) a (.inr (ci, fs0 ci)) b = cellOf cs (nw S ci n a) b := by
  by_cases hb : b = a
  · subst hb
    rw [cell_o (S := nw S ci n b) (ci := ci) (by rw [gK_nw, if_pos rfl]) h6]
    have : flds ci (nw S ci n b) b = fs0 ci := by
      apply List.ext_getElem (by simp [flds, fs0])
      intro i h1 h2
      simp [flds, fs0, gI_nw, gR_nw, va_rf] at h1 h2 ⊢
      simp [h1]
    rw [this]
    simp [va_up]
  · rw [show va_up (cellOf cs S) a (.inr (ci, fs0 ci)) b = cellOf cs S b from if_neg hb]
    exact cell_nn hb
theorem cell_ni {cs : Nat → ClassId} {S : HS} {kd n a : Nat} (h6 : 6 ≤ kd) (h8 : kd < 8) (b : Nat) : va_up (cellOf cs S) a (.inl (cs kd, n, .inl (fun _ => 0))) b = cellOf cs (nw S kd n a) b := by
  by_cases hb : b = a
  · subst hb
    rw [cell_i (S := nw S kd n b) (kd := kd) (by rw [gK_nw, if_pos rfl]) h6 h8, show gN (nw S kd n b) b = n from by rw [gN_nw, if_pos rfl], show gA (nw S kd n b) b = fun _ => 0 from by funext j; rw [gA_nw, if_pos rfl]]
    simp [va_up]
  · rw [show va_up (cellOf cs S) a (.inl (cs kd, n, .inl (fun _ => 0))) b = cellOf cs S b from if_neg hb]
    exact cell_nn hb
theorem cell_nq {cs : Nat → ClassId} {S : HS} {kd n a : Nat} (h6 : 8 ≤ kd) (h8 : kd < 11) (b : Nat) : va_up (cellOf cs S) a (.inl (cs kd, n, .inr (.inr (.inr (.inr (fun _ => none)))))) b = cellOf cs (nw S kd n a) b := by
  by_cases hb : b = a
  · subst hb
    rw [cell_q (S := nw S kd n b) (kd := kd) (by rw [gK_nw, if_pos rfl]) h6 h8, show gN (nw S kd n b) b = n from by rw [gN_nw, if_pos rfl], show gQ (nw S kd n b) b = fun _ => none from by funext j; rw [gQ_nw, if_pos rfl]]
    simp [va_up]
  · rw [show va_up (cellOf cs S) a (.inl (cs kd, n, .inr (.inr (.inr (.inr (fun _ => none)))))) b = cellOf cs S b from if_neg hb]
    exact cell_nn hb
theorem cell_nj {cs : Nat → ClassId} {S : HS} {n a : Nat} (b : Nat) : va_up (cellOf cs S) a (.inl (cs 11, n, .inr (.inl (fun _ => 0)))) b = cellOf cs (nw S 11 n a) b := by
  by_cases hb : b = a
  · subst hb
    rw [cell_j (S := nw S 11 n b) (by rw [gK_nw, if_pos rfl]), show gN (nw S 11 n b) b = n from by rw [gN_nw, if_pos rfl], show gJ (nw S 11 n b) b = fun _ => 0 from by funext j; rw [gJ_nw, if_pos rfl]]
    simp [va_up]
  · rw [show va_up (cellOf cs S) a (.inl (cs 11, n, .inr (.inl (fun _ => 0)))) b = cellOf cs S b from if_neg hb]
    exact cell_nn hb
theorem cell_nd {cs : Nat → ClassId} {S : HS} {n a : Nat} (b : Nat) : va_up (cellOf cs S) a (.inl (cs 12, n, .inr (.inr (.inr (.inl (fun _ => 0)))))) b = cellOf cs (nw S 12 n a) b := by
  by_cases hb : b = a
  · subst hb
    rw [cell_d (S := nw S 12 n b) (by rw [gK_nw, if_pos rfl]), show gN (nw S 12 n b) b = n from by rw [gN_nw, if_pos rfl], show gD (nw S 12 n b) b = fun _ => 0 from by funext j; rw [gD_nw, if_pos rfl]]
    simp [va_up]
  · rw [show va_up (cellOf cs S) a (.inl (cs 12, n, .inr (.inr (.inr (.inl (fun _ => 0)))))) b = cellOf cs S b from if_neg hb]
    exact cell_nn hb
/-- the heap holds S, at addresses that are apart and not below lo -/
def hp (D : va_G) (cs : Nat → ClassId) (lo : Nat) (S : HS) (H : Heap) : Prop := va_P D vwCl ([] ++ va_pl (gL S) (cellOf cs S)) H ∧ va_D (fun q => lo ≤ q) ([] ++ va_pl (gL S) (cellOf cs S))
abbrev strX4 : List (Nat × String) := [(35, "columns"), (40, "width"), (42, "overlap"), (44, "limit"), (46, "due"), (50, "no more banners"), (69, "banner, row or column"), (74, "end"), (76, "level"), (82, "banner"), (91, "banner, strip, row or column"), (101, "printer"), (103, "gain"), (111, "printer or nozzle"), (124, "it is printing"), (132, "printer or row"), (142, "banner, strip or printer"), (155, "waiting, being printed or wet"), (160, "ticks"), (178, "banner or strip"), (190, "banner or seam"), (195, "a strip was not printed")]
abbrev ncsX : List (String × String) := [("java/lang/IllegalStateException", "java/lang/IllegalArgumentException"), ("java/lang/IllegalArgumentException", "java/lang/IndexOutOfBoundsException"), ("java/lang/IllegalStateException", "java/lang/IndexOutOfBoundsException")]
/-- what the throws and the arrays of references need of the start -/
def XF (lo : Nat) (U : State) (H : Heap) : Prop := vx_Zq Bundle.tN "UNASSIGNED_STACK" Bundle.steD (fun q => lo ≤ q) U H ∧ vx_Zq Bundle.tN "SUPPRESSED_SENTINEL" Bundle.listD (fun q => lo ≤ q) U H ∧ (∀ q ∈ strX4, ∃ a, vk_R RX4 q.1 q.2 a U) ∧ (∀ q ∈ ncsX, va_Nc q.1 q.2 U) ∧ va_AO RX0 U ∧ va_AO RX2 U ∧ va_AO RX3 U
theorem XF.go {lo : Nat} {s U : State} {H H1 : Heap} (hW : s.WarmedH U.vm) (h : XF lo s H) (hq : ∀ a : Nat, a < H.size → ¬ lo ≤ a → H1[a]? = H[a]?) : XF lo U H1 :=
  ⟨vx_Zq.moved hW.alike (h.1.kept hq), vx_Zq.moved hW.alike (h.2.1.kept hq), fun q hm => (h.2.2.1 q hm).imp fun _ k => vk_R.warm hW k, fun q hm => (h.2.2.2.1 q hm).moved hW.alike, h.2.2.2.2.1.moved hW.alike, h.2.2.2.2.2.1.moved hW.alike, h.2.2.2.2.2.2.moved hW.alike⟩
/-- a method's start -/
def Cn (D : va_G) (cs : Nat → ClassId) (lo : Nat) (S : HS) (U : State) : Prop := hp D cs lo S U.heap ∧ va_K D vwCl (tysOf cs) U ∧ lo ≤ U.heap.size ∧ XF lo U U.heap
theorem Cn.calling {D : va_G} {cs : Nat → ClassId} {lo : Nat} {S : HS} {U : State} {g : JFrame} {mk : MethodId} {a : Array Value} (h : Cn D cs lo S U) : Cn D cs lo S (U.calling g mk a) :=
  ⟨h.1, va_K.moved (u := U) (U := U.calling g mk a) (Vm.Alike.refl U.vm) h.2.1, h.2.2.1, XF.go (s := U) (U := U.calling g mk a) (State.WarmedH.refl U) h.2.2.2 (fun _ _ _ => rfl)⟩
abbrev Bx (p : Program) (m : MethodId) (c : Code) (cc : ByteArray) (nL : Nat) (s : State) (args : Array Value) (own : String) (D : va_G) (cs : Nat → ClassId) (lo : Nat) : Prop := CallFix p m c cc nL s args T0 own ∧ va_K D vwCl (tysOf cs) s ∧ lo ≤ s.heap.size ∧ XF lo s s.heap
abbrev Hx (D : va_G) (cs : Nat → ClassId) (lo : Nat) (s : State) (S : HS) (H : Heap) (locs : List Loc) : Prop := hp D cs lo S H ∧ va_S (fun q => lo ≤ q) s.heap H locs
theorem Hx.cn {p : Program} {m : MethodId} {c : Code} {cc : ByteArray} {nL : Nat} {s U : State} {args : Array Value} {own : String} {D : va_G} {cs : Nat → ClassId} {lo : Nat} {S : HS} {H : Heap} {locs : List Loc} (B : Bx p m c cc nL s args own D cs lo) (h : Hx D cs lo s S H locs) (hU : U.heap = H) (hW : s.WarmedH U.vm) : Cn D cs lo S U := by
  obtain ⟨B1, hK, hlo, hX⟩ := B
  exact ⟨by rw [hU]; exact h.1, hK.moved hW.alike, by rw [hU]; exact Nat.le_trans hlo h.2.1, by rw [hU]; exact XF.go hW hX h.2.2.1⟩
end
section
section RW
variable {p : Program} {l : Launch} {e : Env} {R : Room} {s : State} {m : MethodId} {args : Array Value} {below : List Frame} {meth : Method} {c : Code} {H : Heap} {locs : List Loc} {cells slots : Nat} {Q : State → Prop}
variable {cc : ByteArray} {pc nL lo : Nat} {ls : Array Slot} {rest : List Value} {D : va_G} {cs : Nat → ClassId} {own : String} {S : HS}
theorem Bx.ts (B : Bx p m c cc nL s args own D cs lo) {w : Cond} (h : w ∈ T0) : w.before args s = true := B.1.2.2.2.2 w h
theorem hp.k (h : hp D cs lo S H) {a : Nat} (ha : a ∈ gL S) : ∃ k : Nat, ([] ++ va_pl (gL S) (cellOf cs S))[k]? = some (a, cellOf cs S a) := va_pl_get (X := []) (f := cellOf cs S) ha
theorem pl_eq {L : List Nat} {f g : Nat → va_E} (h : ∀ a, f a = g a) : ([] ++ va_pl L f : va_W) = [] ++ va_pl L g := congrArg (fun l => [] ++ l) (va_pl_congr h)
/-- a field read: I int, R reference; N: of a nest mate -/
theorem q_getI (B : Bx p m c cc nL s args own D cs lo) (h : Hx D cs lo s S H locs) {ci j code index N a : Nat} {C : String} {T : u_T} (hc : vwCl[ci]? = some (C, T, N)) (hin : ∀ w ∈ u_ws C T N, w ∈ T0) (hj : j < N) (hlink : Cond.fieldLink own index C (T j).2.1 (T j).2.2.1 ∈ T0) (hr : (T j).1 = C) (hs : (fsh ci)[j]? = some false) (hcode : 32 * ci + j = code) (h6 : ci < 6)
    (hdg : decode cc pc = .ok (.getfield index, 3)) (ha : a ∈ gL S) (hk : gK S a = ci)
    (kk : W p l e R s m args below meth c H locs cells slots Q (F0 m (pc + 3) ls (.int (gI S code a) :: rest))) : W p l e R s m args below meth c H locs cells slots Q (F0 m pc ls (.ref a :: rest)) := by
  obtain ⟨k, hk1⟩ := h.1.k ha
  rw [cell_o hk h6] at hk1
  subst hcode
  exact va_get B.1.1 B.1.2.1 B.1.2.2.2.2 hin B.1.2.2.2.1 B.2.1 h.1.1 k hk1 hc j hj (B.ts hlink) (fun x hx => by rw [hr] at hx; exact hx) (flds_I hs) hdg kk
theorem q_getR (B : Bx p m c cc nL s args own D cs lo) (h : Hx D cs lo s S H locs) {ci j code index N a : Nat} {C : String} {T : u_T} (hc : vwCl[ci]? = some (C, T, N)) (hin : ∀ w ∈ u_ws C T N, w ∈ T0) (hj : j < N) (hlink : Cond.fieldLink own index C (T j).2.1 (T j).2.2.1 ∈ T0) (hr : (T j).1 = C) (hs : (fsh ci)[j]? = some true) (hcode : 32 * ci + j = code) (h6 : ci < 6)
    (hdg : decode cc pc = .ok (.getfield index, 3)) (ha : a ∈ gL S) (hk : gK S a = ci)
    (kk : W p l e R s m args below meth c H locs cells slots Q (F0 m (pc + 3) ls (va_rf (gR S code a) :: rest))) : W p l e R s m args below meth c H locs cells slots Q (F0 m pc ls (.ref a :: rest)) := by
  obtain ⟨k, hk1⟩ := h.1.k ha
  rw [cell_o hk h6] at hk1
  subst hcode
  exact va_get B.1.1 B.1.2.1 B.1.2.2.2.2 hin B.1.2.2.2.1 B.2.1 h.1.1 k hk1 hc j hj (B.ts hlink) (fun x hx => by rw [hr] at hx; exact hx) (flds_R hs) hdg kk
theorem q_getIN (B : Bx p m c cc nL s args own D cs lo) (h : Hx D cs lo s S H locs) {ci j code index N a : Nat} {C host : String} {T : u_T} (hc : vwCl[ci]? = some (C, T, N)) (hin : ∀ w ∈ u_ws C T N, w ∈ T0) (hj : j < N) (hlink : Cond.fieldLinkNest own index C (T j).2.1 (T j).2.2.1 host ∈ T0) (hr : (T j).1 = C) (hs : (fsh ci)[j]? = some false) (hcode : 32 * ci + j = code) (h6 : ci < 6)
    (hdg : decode cc pc = .ok (.getfield index, 3)) (ha : a ∈ gL S) (hk : gK S a = ci)
    (kk : W p l e R s m args below meth c H locs cells slots Q (F0 m (pc + 3) ls (.int (gI S code a) :: rest))) : W p l e R s m args below meth c H locs cells slots Q (F0 m pc ls (.ref a :: rest)) := by
  obtain ⟨k, hk1⟩ := h.1.k ha
  rw [cell_o hk h6] at hk1
  subst hcode
  exact va_getN B.1.1 B.1.2.1 B.1.2.2.2.2 hin B.1.2.2.2.1 B.2.1 h.1.1 k hk1 hc j hj (B.ts hlink) (fun x hx => by rw [hr] at hx; exact hx) (flds_I hs) hdg kk
theorem q_getRN (B : Bx p m c cc nL s args own D cs lo) (h : Hx D cs lo s S H locs) {ci j code index N a : Nat} {C host : String} {T : u_T} (hc : vwCl[ci]? = some (C, T, N)) (hin : ∀ w ∈ u_ws C T N, w ∈ T0) (hj : j < N) (hlink : Cond.fieldLinkNest own index C (T j).2.1 (T j).2.2.1 host ∈ T0) (hr : (T j).1 = C) (hs : (fsh ci)[j]? = some true) (hcode : 32 * ci + j = code) (h6 : ci < 6)
    (hdg : decode cc pc = .ok (.getfield index, 3)) (ha : a ∈ gL S) (hk : gK S a = ci)
    (kk : W p l e R s m args below meth c H locs cells slots Q (F0 m (pc + 3) ls (va_rf (gR S code a) :: rest))) : W p l e R s m args below meth c H locs cells slots Q (F0 m pc ls (.ref a :: rest)) := by
  obtain ⟨k, hk1⟩ := h.1.k ha
  rw [cell_o hk h6] at hk1
  subst hcode
  exact va_getN B.1.1 B.1.2.1 B.1.2.2.2.2 hin B.1.2.2.2.1 B.2.1 h.1.1 k hk1 hc j hj (B.ts hlink) (fun x hx => by rw [hr] at hx; exact hx) (flds_R hs) hdg kk
theorem hp.put (h : hp D cs lo S H) {ci j a k : Nat} {v : Int32} {H1 : Heap} (ha : a ∈ gL S) (hk : gK S a = ci) (h6 : ci < 6) (hs : (fsh ci)[j]? = some false) (hk1 : ([] ++ va_pl (gL S) (cellOf cs S))[k]? = some (a, cellOf cs S a)) (hP : va_P D vwCl (([] ++ va_pl (gL S) (cellOf cs S)).set k (a, .inr (ci, (flds ci S a).set j (.int v)))) H1) (hD : va_D (fun q => lo ≤ q) (([] ++ va_pl (gL S) (cellOf cs S)).set k (a, .inr (ci, (flds ci S a).set j (.int v))))) : hp D cs lo (sI S (32 * ci + j) a v) H1 := by
  have e := (va_pl_set h.2 ha hk1 (e := .inr (ci, (flds ci S a).set j (.int v)))).trans (pl_eq (cell_sI (cs := cs) (v := v) hk h6 hs))
  rw [e] at hP hD
  exact ⟨hP, hD⟩
theorem hp.putR (h : hp D cs lo S H) {ci j a k : Nat} {v : Option Nat} {H1 : Heap} (ha : a ∈ gL S) (hk : gK S a = ci) (h6 : ci < 6) (hs : (fsh ci)[j]? = some true) (hk1 : ([] ++ va_pl (gL S) (cellOf cs S))[k]? = some (a, cellOf cs S a)) (hP : va_P D vwCl (([] ++ va_pl (gL S) (cellOf cs S)).set k (a, .inr (ci, (flds ci S a).set j (va_rf v)))) H1) (hD : va_D (fun q => lo ≤ q) (([] ++ va_pl (gL S) (cellOf cs S)).set k (a, .inr (ci, (flds ci S a).set j (va_rf v))))) : hp D cs lo (sR S (32 * ci + j) a v) H1 := by
  have e := (va_pl_set h.2 ha hk1 (e := .inr (ci, (flds ci S a).set j (va_rf v)))).trans (pl_eq (cell_sR (cs := cs) (v := v) hk h6 hs))
  rw [e] at hP hD
  exact ⟨hP, hD⟩
theorem q_putI (B : Bx p m c cc nL s args own D cs lo) (h : Hx D cs lo s S H locs) {ci j code index N a : Nat} {C : String} {T : u_T} (hc : vwCl[ci]? = some (C, T, N)) (hin : ∀ w ∈ u_ws C T N, w ∈ T0) (ty0 : Nat → FieldType) (hty : ∀ k, k < N → parseFieldDescriptor (T k).2.2.1 = some (ty0 k)) (hnm : ∀ a, a < N → ∀ b, b < N → a ≠ b → (T a).2.1 ≠ (T b).2.1) (hj : j < N) (hlink : Cond.fieldLink own index C (T j).2.1 (T j).2.2.1 ∈ T0) (hr : (T j).1 = C) (hfin : (T j).2.2.2 = false) (hs : (fsh ci)[j]? = some false) (hcode : 32 * ci + j = code) (h6 : ci < 6) {v : Int32} (hn : narrow (ty0 j) (.int v) = .int v) (hfit : fits (ty0 j) (.int v) = true)
    (hdg : decode cc pc = .ok (.putfield index, 3)) (ha : a ∈ gL S) (hk : gK S a = ci)
    (kk : ∀ (H1 : Heap) (locs1 : List Loc), Hx D cs lo s (sI S code a v) H1 locs1 → W p l e R s m args below meth c H1 locs1 cells slots Q (F0 m (pc + 3) ls rest)) : W p l e R s m args below meth c H locs cells slots Q (F0 m pc ls (.int v :: .ref a :: rest)) := by
  obtain ⟨k, hk0⟩ := h.1.k ha
  have hk1 := hk0
  rw [cell_o hk h6] at hk1
  subst hcode
  have hjl : j < (flds ci S a).length := by rw [flds_len]; exact (List.getElem?_eq_some_iff.mp hs).1
  exact va_put B.1.1 B.1.2.1 B.1.2.2.2.2 hin ty0 hty hnm B.1.2.2.2.1 B.2.1 h.1.1 h.1.2 h.2 k hk1 hc j hj (B.ts hlink) (fun x hx => by rw [hr] at hx; exact hx) hfin (hty j hj) hn hfit hjl hdg (fun H1 locs1 hP hD hS => kk H1 locs1 ⟨h.1.put ha hk h6 hs hk0 hP hD, hS⟩)
theorem q_putIN (B : Bx p m c cc nL s args own D cs lo) (h : Hx D cs lo s S H locs) {ci j code index N a : Nat} {C host : String} {T : u_T} (hc : vwCl[ci]? = some (C, T, N)) (hin : ∀ w ∈ u_ws C T N, w ∈ T0) (ty0 : Nat → FieldType) (hty : ∀ k, k < N → parseFieldDescriptor (T k).2.2.1 = some (ty0 k)) (hnm : ∀ a, a < N → ∀ b, b < N → a ≠ b → (T a).2.1 ≠ (T b).2.1) (hj : j < N) (hlink : Cond.fieldLinkNest own index C (T j).2.1 (T j).2.2.1 host ∈ T0) (hr : (T j).1 = C) (hfin : (T j).2.2.2 = false) (hs : (fsh ci)[j]? = some false) (hcode : 32 * ci + j = code) (h6 : ci < 6) {v : Int32} (hn : narrow (ty0 j) (.int v) = .int v) (hfit : fits (ty0 j) (.int v) = true)
    (hdg : decode cc pc = .ok (.putfield index, 3)) (ha : a ∈ gL S) (hk : gK S a = ci)
    (kk : ∀ (H1 : Heap) (locs1 : List Loc), Hx D cs lo s (sI S code a v) H1 locs1 → W p l e R s m args below meth c H1 locs1 cells slots Q (F0 m (pc + 3) ls rest)) : W p l e R s m args below meth c H locs cells slots Q (F0 m pc ls (.int v :: .ref a :: rest)) := by
  obtain ⟨k, hk0⟩ := h.1.k ha
  have hk1 := hk0
  rw [cell_o hk h6] at hk1
  subst hcode
  have hjl : j < (flds ci S a).length := by rw [flds_len]; exact (List.getElem?_eq_some_iff.mp hs).1
  exact va_putN B.1.1 B.1.2.1 B.1.2.2.2.2 hin ty0 hty hnm B.1.2.2.2.1 B.2.1 h.1.1 h.1.2 h.2 k hk1 hc j hj (B.ts hlink) (fun x hx => by rw [hr] at hx; exact hx) hfin (hty j hj) hn hfit hjl hdg (fun H1 locs1 hP hD hS => kk H1 locs1 ⟨h.1.put ha hk h6 hs hk0 hP hD, hS⟩)
theorem q_putIF (B : Bx p m c cc nL s args own D cs lo) (h : Hx D cs lo s S H locs) {ci j code index N a : Nat} {C : String} {T : u_T} (hc : vwCl[ci]? = some (C, T, N)) (hin : ∀ w ∈ u_ws C T N, w ∈ T0) (ty0 : Nat → FieldType) (hty : ∀ k, k < N → parseFieldDescriptor (T k).2.2.1 = some (ty0 k)) (hnm : ∀ a, a < N → ∀ b, b < N → a ≠ b → (T a).2.1 ≠ (T b).2.1) (hj : j < N) (hlink : Cond.fieldLink own index C (T j).2.1 (T j).2.2.1 ∈ T0) (hr : (T j).1 = C) (hfin : (T j).2.2.2 = true) (hin2 : meth.name = "<init>") (hdecl : (T j).1 = own) (hs : (fsh ci)[j]? = some false) (hcode : 32 * ci + j = code) (h6 : ci < 6) {v : Int32} (hn : narrow (ty0 j) (.int v) = .int v) (hfit : fits (ty0 j) (.int v) = true)
    (hdg : decode cc pc = .ok (.putfield index, 3)) (ha : a ∈ gL S) (hk : gK S a = ci)
    (kk : ∀ (H1 : Heap) (locs1 : List Loc), Hx D cs lo s (sI S code a v) H1 locs1 → W p l e R s m args below meth c H1 locs1 cells slots Q (F0 m (pc + 3) ls rest)) : W p l e R s m args below meth c H locs cells slots Q (F0 m pc ls (.int v :: .ref a :: rest)) := by
  obtain ⟨k, hk0⟩ := h.1.k ha
  have hk1 := hk0
  rw [cell_o hk h6] at hk1
  subst hcode
  have hjl : j < (flds ci S a).length := by rw [flds_len]; exact (List.getElem?_eq_some_iff.mp hs).1
  exact va_putF B.1.1 B.1.2.1 B.1.2.2.2.2 hin ty0 hty hnm B.1.2.2.2.1 B.2.1 h.1.1 h.1.2 h.2 k hk1 hc j hj (B.ts hlink) (fun x hx => by rw [hr] at hx; exact hx) hfin hin2 hdecl (hty j hj) hn hfit hjl hdg (fun H1 locs1 hP hD hS => kk H1 locs1 ⟨h.1.put ha hk h6 hs hk0 hP hD, hS⟩)
theorem q_putR (B : Bx p m c cc nL s args own D cs lo) (h : Hx D cs lo s S H locs) {ci j code index N a : Nat} {C : String} {T : u_T} (hc : vwCl[ci]? = some (C, T, N)) (hin : ∀ w ∈ u_ws C T N, w ∈ T0) (ty0 : Nat → FieldType) (hty : ∀ k, k < N → parseFieldDescriptor (T k).2.2.1 = some (ty0 k)) (hnm : ∀ a, a < N → ∀ b, b < N → a ≠ b → (T a).2.1 ≠ (T b).2.1) (hj : j < N) (hlink : Cond.fieldLink own index C (T j).2.1 (T j).2.2.1 ∈ T0) (hr : (T j).1 = C) (hfin : (T j).2.2.2 = false) (hs : (fsh ci)[j]? = some true) (hcode : 32 * ci + j = code) (h6 : ci < 6) {v : Option Nat} (hn : narrow (ty0 j) (va_rf v) = va_rf v) (hfit : fits (ty0 j) (va_rf v) = true)
    (hdg : decode cc pc = .ok (.putfield index, 3)) (ha : a ∈ gL S) (hk : gK S a = ci)
    (kk : ∀ (H1 : Heap) (locs1 : List Loc), Hx D cs lo s (sR S code a v) H1 locs1 → W p l e R s m args below meth c H1 locs1 cells slots Q (F0 m (pc + 3) ls rest)) : W p l e R s m args below meth c H locs cells slots Q (F0 m pc ls (va_rf v :: .ref a :: rest)) := by
  obtain ⟨k, hk0⟩ := h.1.k ha
  have hk1 := hk0
  rw [cell_o hk h6] at hk1
  subst hcode
  have hjl : j < (flds ci S a).length := by rw [flds_len]; exact (List.getElem?_eq_some_iff.mp hs).1
  exact va_put B.1.1 B.1.2.1 B.1.2.2.2.2 hin ty0 hty hnm B.1.2.2.2.1 B.2.1 h.1.1 h.1.2 h.2 k hk1 hc j hj (B.ts hlink) (fun x hx => by rw [hr] at hx; exact hx) hfin (hty j hj) hn hfit hjl hdg (fun H1 locs1 hP hD hS => kk H1 locs1 ⟨h.1.putR ha hk h6 hs hk0 hP hD, hS⟩)
theorem q_putRN (B : Bx p m c cc nL s args own D cs lo) (h : Hx D cs lo s S H locs) {ci j code index N a : Nat} {C host : String} {T : u_T} (hc : vwCl[ci]? = some (C, T, N)) (hin : ∀ w ∈ u_ws C T N, w ∈ T0) (ty0 : Nat → FieldType) (hty : ∀ k, k < N → parseFieldDescriptor (T k).2.2.1 = some (ty0 k)) (hnm : ∀ a, a < N → ∀ b, b < N → a ≠ b → (T a).2.1 ≠ (T b).2.1) (hj : j < N) (hlink : Cond.fieldLinkNest own index C (T j).2.1 (T j).2.2.1 host ∈ T0) (hr : (T j).1 = C) (hfin : (T j).2.2.2 = false) (hs : (fsh ci)[j]? = some true) (hcode : 32 * ci + j = code) (h6 : ci < 6) {v : Option Nat} (hn : narrow (ty0 j) (va_rf v) = va_rf v) (hfit : fits (ty0 j) (va_rf v) = true)
    (hdg : decode cc pc = .ok (.putfield index, 3)) (ha : a ∈ gL S) (hk : gK S a = ci)
    (kk : ∀ (H1 : Heap) (locs1 : List Loc), Hx D cs lo s (sR S code a v) H1 locs1 → W p l e R s m args below meth c H1 locs1 cells slots Q (F0 m (pc + 3) ls rest)) : W p l e R s m args below meth c H locs cells slots Q (F0 m pc ls (va_rf v :: .ref a :: rest)) := by
  obtain ⟨k, hk0⟩ := h.1.k ha
  have hk1 := hk0
  rw [cell_o hk h6] at hk1
  subst hcode
  have hjl : j < (flds ci S a).length := by rw [flds_len]; exact (List.getElem?_eq_some_iff.mp hs).1
  exact va_putN B.1.1 B.1.2.1 B.1.2.2.2.2 hin ty0 hty hnm B.1.2.2.2.1 B.2.1 h.1.1 h.1.2 h.2 k hk1 hc j hj (B.ts hlink) (fun x hx => by rw [hr] at hx; exact hx) hfin (hty j hj) hn hfit hjl hdg (fun H1 locs1 hP hD hS => kk H1 locs1 ⟨h.1.putR ha hk h6 hs hk0 hP hD, hS⟩)
theorem q_putRF (B : Bx p m c cc nL s args own D cs lo) (h : Hx D cs lo s S H locs) {ci j code index N a : Nat} {C : String} {T : u_T} (hc : vwCl[ci]? = some (C, T, N)) (hin : ∀ w ∈ u_ws C T N, w ∈ T0) (ty0 : Nat → FieldType) (hty : ∀ k, k < N → parseFieldDescriptor (T k).2.2.1 = some (ty0 k)) (hnm : ∀ a, a < N → ∀ b, b < N → a ≠ b → (T a).2.1 ≠ (T b).2.1) (hj : j < N) (hlink : Cond.fieldLink own index C (T j).2.1 (T j).2.2.1 ∈ T0) (hr : (T j).1 = C) (hfin : (T j).2.2.2 = true) (hin2 : meth.name = "<init>") (hdecl : (T j).1 = own) (hs : (fsh ci)[j]? = some true) (hcode : 32 * ci + j = code) (h6 : ci < 6) {v : Option Nat} (hn : narrow (ty0 j) (va_rf v) = va_rf v) (hfit : fits (ty0 j) (va_rf v) = true)
    (hdg : decode cc pc = .ok (.putfield index, 3)) (ha : a ∈ gL S) (hk : gK S a = ci)
    (kk : ∀ (H1 : Heap) (locs1 : List Loc), Hx D cs lo s (sR S code a v) H1 locs1 → W p l e R s m args below meth c H1 locs1 cells slots Q (F0 m (pc + 3) ls rest)) : W p l e R s m args below meth c H locs cells slots Q (F0 m pc ls (va_rf v :: .ref a :: rest)) := by
  obtain ⟨k, hk0⟩ := h.1.k ha
  have hk1 := hk0
  rw [cell_o hk h6] at hk1
  subst hcode
  have hjl : j < (flds ci S a).length := by rw [flds_len]; exact (List.getElem?_eq_some_iff.mp hs).1
  exact va_putF B.1.1 B.1.2.1 B.1.2.2.2.2 hin ty0 hty hnm B.1.2.2.2.1 B.2.1 h.1.1 h.1.2 h.2 k hk1 hc j hj (B.ts hlink) (fun x hx => by rw [hr] at hx; exact hx) hfin hin2 hdecl (hty j hj) hn hfit hjl hdg (fun H1 locs1 hP hD hS => kk H1 locs1 ⟨h.1.putR ha hk h6 hs hk0 hP hD, hS⟩)
/-- arrays -/
theorem q_iald (B : Bx p m c cc nL s args own D cs lo) (h : Hx D cs lo s S H locs) {a : Nat} {i : Int32} (hdg : decode cc pc = .ok (.iaload, 1)) (ha : a ∈ gL S) (hk : gK S a = 6) (hin : vp_in i (gN S a))
    (kk : W p l e R s m args below meth c H locs cells slots Q (F0 m (pc + 1) ls (.int (gA S a i.toNatClampNeg) :: rest))) : W p l e R s m args below meth c H locs cells slots Q (F0 m pc ls (.int i :: .ref a :: rest)) := by
  obtain ⟨k, hk1⟩ := h.1.k ha
  rw [cell_i hk (by decide) (by decide)] at hk1
  exact va_iald B.1.1 B.1.2.1 B.2.1 h.1.1 k 0 hk1 rfl hin hdg kk
theorem q_zald (B : Bx p m c cc nL s args own D cs lo) (h : Hx D cs lo s S H locs) {a : Nat} {i : Int32} (hdg : decode cc pc = .ok (.baload, 1)) (ha : a ∈ gL S) (hk : gK S a = 7) (hin : vp_in i (gN S a))
    (kk : W p l e R s m args below meth c H locs cells slots Q (F0 m (pc + 1) ls (.int (gA S a i.toNatClampNeg) :: rest))) : W p l e R s m args below meth c H locs cells slots Q (F0 m pc ls (.int i :: .ref a :: rest)) := by
  obtain ⟨k, hk1⟩ := h.1.k ha
  rw [cell_i hk (by decide) (by decide)] at hk1
  exact va_zald B.1.1 B.1.2.1 B.2.1 h.1.1 k 1 hk1 rfl hin hdg kk
theorem q_aald (B : Bx p m c cc nL s args own D cs lo) (h : Hx D cs lo s S H locs) {a kd : Nat} {C : String} {i : Int32} (h8 : 8 ≤ kd) (h11 : kd < 11) (ht : (tysOf cs)[kd - 6]? = some (cs kd, .object C)) (hdg : decode cc pc = .ok (.aaload, 1)) (ha : a ∈ gL S) (hk : gK S a = kd) (hin : vp_in i (gN S a))
    (kk : W p l e R s m args below meth c H locs cells slots Q (F0 m (pc + 1) ls (va_rf (gQ S a i.toNatClampNeg) :: rest))) : W p l e R s m args below meth c H locs cells slots Q (F0 m pc ls (.int i :: .ref a :: rest)) := by
  obtain ⟨k, hk1⟩ := h.1.k ha
  rw [cell_q hk h8 h11] at hk1
  exact va_aldq B.1.1 B.1.2.1 B.2.1 h.1.1 k (kd - 6) hk1 ht hin hdg kk
theorem q_lald (B : Bx p m c cc nL s args own D cs lo) (h : Hx D cs lo s S H locs) {a : Nat} {i : Int32} (hdg : decode cc pc = .ok (.laload, 1)) (ha : a ∈ gL S) (hk : gK S a = 11) (hin : vp_in i (gN S a))
    (kk : W p l e R s m args below meth c H locs cells slots Q (F0 m (pc + 1) ls (.long (gJ S a i.toNatClampNeg) :: rest))) : W p l e R s m args below meth c H locs cells slots Q (F0 m pc ls (.int i :: .ref a :: rest)) := by
  obtain ⟨k, hk1⟩ := h.1.k ha
  rw [cell_j hk] at hk1
  exact va_lald B.1.1 B.1.2.1 B.2.1 h.1.1 k 5 hk1 rfl hin hdg kk
theorem q_dald (B : Bx p m c cc nL s args own D cs lo) (h : Hx D cs lo s S H locs) {a : Nat} {i : Int32} (hdg : decode cc pc = .ok (.daload, 1)) (ha : a ∈ gL S) (hk : gK S a = 12) (hin : vp_in i (gN S a))
    (kk : W p l e R s m args below meth c H locs cells slots Q (F0 m (pc + 1) ls (.double (gD S a i.toNatClampNeg) :: rest))) : W p l e R s m args below meth c H locs cells slots Q (F0 m pc ls (.int i :: .ref a :: rest)) := by
  obtain ⟨k, hk1⟩ := h.1.k ha
  rw [cell_d hk] at hk1
  exact va_dald B.1.1 B.1.2.1 B.2.1 h.1.1 k 6 hk1 rfl hin hdg kk
theorem q_alen (B : Bx p m c cc nL s args own D cs lo) (h : Hx D cs lo s S H locs) {a : Nat} (hdg : decode cc pc = .ok (.arraylength, 1)) (ha : a ∈ gL S) (h6 : 6 ≤ gK S a) (h13 : gK S a < 13)
    (kk : W p l e R s m args below meth c H locs cells slots Q (F0 m (pc + 1) ls (.int (nI (gN S a)) :: rest))) : W p l e R s m args below meth c H locs cells slots Q (F0 m pc ls (.ref a :: rest)) := by
  obtain ⟨k, hk1⟩ := h.1.k ha
  obtain ⟨kd, hk⟩ : ∃ kd, gK S a = kd := ⟨_, rfl⟩
  rw [hk] at h6 h13
  rcases (show kd = 6 ∨ kd = 7 ∨ kd = 8 ∨ kd = 9 ∨ kd = 10 ∨ kd = 11 ∨ kd = 12 by omega) with rfl | rfl | rfl | rfl | rfl | rfl | rfl
  · rw [cell_i hk (by decide) (by decide)] at hk1
    exact va_alen B.1.1 B.1.2.1 B.2.1 h.1.1 k 0 hk1 (ty := .int) rfl rfl hdg kk
  · rw [cell_i hk (by decide) (by decide)] at hk1
    exact va_alen B.1.1 B.1.2.1 B.2.1 h.1.1 k 1 hk1 (ty := .boolean) rfl rfl hdg kk
  · rw [cell_q hk (by decide) (by decide)] at hk1
    exact va_alen B.1.1 B.1.2.1 B.2.1 h.1.1 k 2 hk1 (ty := .object RX0) rfl rfl hdg kk
  · rw [cell_q hk (by decide) (by decide)] at hk1
    exact va_alen B.1.1 B.1.2.1 B.2.1 h.1.1 k 3 hk1 (ty := .object RX2) rfl rfl hdg kk
  · rw [cell_q hk (by decide) (by decide)] at hk1
    exact va_alen B.1.1 B.1.2.1 B.2.1 h.1.1 k 4 hk1 (ty := .object RX3) rfl rfl hdg kk
  · rw [cell_j hk] at hk1
    exact va_alen B.1.1 B.1.2.1 B.2.1 h.1.1 k 5 hk1 (ty := .long) rfl rfl hdg kk
  · rw [cell_d hk] at hk1
    exact va_alen B.1.1 B.1.2.1 B.2.1 h.1.1 k 6 hk1 (ty := .double) rfl rfl hdg kk
theorem q_iast (B : Bx p m c cc nL s args own D cs lo) (h : Hx D cs lo s S H locs) {a : Nat} {i x : Int32} (hdg : decode cc pc = .ok (.iastore, 1)) (ha : a ∈ gL S) (hk : gK S a = 6) (hin : vp_in i (gN S a))
    (kk : ∀ (H1 : Heap) (locs1 : List Loc), Hx D cs lo s (sA S a i.toNatClampNeg x) H1 locs1 → W p l e R s m args below meth c H1 locs1 cells slots Q (F0 m (pc + 1) ls rest)) : W p l e R s m args below meth c H locs cells slots Q (F0 m pc ls (.int x :: .int i :: .ref a :: rest)) := by
  obtain ⟨k, hk0⟩ := h.1.k ha
  have hk1 := hk0
  rw [cell_i hk (by decide) (by decide)] at hk1
  refine va_iast B.1.1 B.1.2.1 B.2.1 h.1.1 h.1.2 h.2 k 0 hk1 rfl hin hdg (fun H1 locs1 hP hD hS => ?_)
  have e := (va_pl_set h.1.2 ha hk0 (e := .inl (cs 6, gN S a, .inl (upd (gA S a) i.toNatClampNeg x)))).trans (pl_eq (cell_sA (cs := cs) hk (by decide) (by decide)))
  rw [e] at hP hD
  exact kk H1 locs1 ⟨⟨hP, hD⟩, hS⟩
theorem q_zast (B : Bx p m c cc nL s args own D cs lo) (h : Hx D cs lo s S H locs) {a : Nat} {i x : Int32} (hx : vp_nar .boolean x = x) (hdg : decode cc pc = .ok (.bastore, 1)) (ha : a ∈ gL S) (hk : gK S a = 7) (hin : vp_in i (gN S a))
    (kk : ∀ (H1 : Heap) (locs1 : List Loc), Hx D cs lo s (sA S a i.toNatClampNeg x) H1 locs1 → W p l e R s m args below meth c H1 locs1 cells slots Q (F0 m (pc + 1) ls rest)) : W p l e R s m args below meth c H locs cells slots Q (F0 m pc ls (.int x :: .int i :: .ref a :: rest)) := by
  obtain ⟨k, hk0⟩ := h.1.k ha
  have hk1 := hk0
  rw [cell_i hk (by decide) (by decide)] at hk1
  refine va_zast B.1.1 B.1.2.1 B.2.1 h.1.1 h.1.2 h.2 k 1 hk1 rfl hin hdg (fun H1 locs1 hP hD hS => ?_)
  rw [hx] at hP hD
  have e := (va_pl_set h.1.2 ha hk0 (e := .inl (cs 7, gN S a, .inl (upd (gA S a) i.toNatClampNeg x)))).trans (pl_eq (cell_sA (cs := cs) hk (by decide) (by decide)))
  rw [e] at hP hD
  exact kk H1 locs1 ⟨⟨hP, hD⟩, hS⟩
theorem q_last (B : Bx p m c cc nL s args own D cs lo) (h : Hx D cs lo s S H locs) {a : Nat} {i : Int32} {x : Int64} (hdg : decode cc pc = .ok (.lastore, 1)) (ha : a ∈ gL S) (hk : gK S a = 11) (hin : vp_in i (gN S a))
    (kk : ∀ (H1 : Heap) (locs1 : List Loc), Hx D cs lo s (sJ S a i.toNatClampNeg x) H1 locs1 → W p l e R s m args below meth c H1 locs1 cells slots Q (F0 m (pc + 1) ls rest)) : W p l e R s m args below meth c H locs cells slots Q (F0 m pc ls (.long x :: .int i :: .ref a :: rest)) := by
  obtain ⟨k, hk0⟩ := h.1.k ha
  have hk1 := hk0
  rw [cell_j hk] at hk1
  refine va_last B.1.1 B.1.2.1 B.2.1 h.1.1 h.1.2 h.2 k 5 hk1 rfl hin hdg (fun H1 locs1 hP hD hS => ?_)
  have e := (va_pl_set h.1.2 ha hk0 (e := .inl (cs 11, gN S a, .inr (.inl (vp_updL (gJ S a) i.toNatClampNeg x))))).trans (pl_eq (cell_sJ (cs := cs) hk))
  rw [e] at hP hD
  exact kk H1 locs1 ⟨⟨hP, hD⟩, hS⟩
theorem q_dast (B : Bx p m c cc nL s args own D cs lo) (h : Hx D cs lo s S H locs) {a : Nat} {i : Int32} {x : UInt64} (hdg : decode cc pc = .ok (.dastore, 1)) (ha : a ∈ gL S) (hk : gK S a = 12) (hin : vp_in i (gN S a))
    (kk : ∀ (H1 : Heap) (locs1 : List Loc), Hx D cs lo s (sD S a i.toNatClampNeg x) H1 locs1 → W p l e R s m args below meth c H1 locs1 cells slots Q (F0 m (pc + 1) ls rest)) : W p l e R s m args below meth c H locs cells slots Q (F0 m pc ls (.double x :: .int i :: .ref a :: rest)) := by
  obtain ⟨k, hk0⟩ := h.1.k ha
  have hk1 := hk0
  rw [cell_d hk] at hk1
  refine va_dast B.1.1 B.1.2.1 B.2.1 h.1.1 h.1.2 h.2 k 6 hk1 rfl hin hdg (fun H1 locs1 hP hD hS => ?_)
  have e := (va_pl_set h.1.2 ha hk0 (e := .inl (cs 12, gN S a, .inr (.inr (.inr (.inl (vf_upd (gD S a) i.toNatClampNeg x))))))).trans (pl_eq (cell_sD (cs := cs) hk))
  rw [e] at hP hD
  exact kk H1 locs1 ⟨⟨hP, hD⟩, hS⟩
theorem q_aast (B : Bx p m c cc nL s args own D cs lo) (h : Hx D cs lo s S H locs) {a v kd ci : Nat} {r : vw_C} {i : Int32} (h8 : 8 ≤ kd) (h11 : kd < 11) (h6 : ci < 6) (hc : vwCl[ci]? = some r) (ht : (tysOf cs)[kd - 6]? = some (cs kd, .object r.1)) (hdg : decode cc pc = .ok (.aastore, 1)) (ha : a ∈ gL S) (hk : gK S a = kd) (hv : v ∈ gL S) (hkv : gK S v = ci) (hin : vp_in i (gN S a))
    (kk : ∀ (H1 : Heap) (locs1 : List Loc), Hx D cs lo s (sQ S a i.toNatClampNeg (some v)) H1 locs1 → W p l e R s m args below meth c H1 locs1 cells slots Q (F0 m (pc + 1) ls rest)) : W p l e R s m args below meth c H locs cells slots Q (F0 m pc ls (.ref v :: .int i :: .ref a :: rest)) := by
  obtain ⟨k, hk0⟩ := h.1.k ha
  have hk1 := hk0
  rw [cell_q hk h8 h11] at hk1
  obtain ⟨kv, hv1⟩ := h.1.k hv
  rw [cell_o hkv h6] at hv1
  refine va_astq B.1.1 B.1.2.1 B.2.1 h.1.1 h.1.2 h.2 k (kd - 6) kv ci hk1 ht hv1 hc hin hdg (fun H1 locs1 hP hD hS => ?_)
  have e := (va_pl_set h.1.2 ha hk0 (e := .inl (cs kd, gN S a, .inr (.inr (.inr (.inr (va_up (gQ S a) i.toNatClampNeg (some v)))))))).trans (pl_eq (cell_sQ (cs := cs) hk h8 h11))
  rw [e] at hP hD
  exact kk H1 locs1 ⟨⟨hP, hD⟩, hS⟩
/-- new things -/
theorem hp.new (h : hp D cs lo S H) {k n q : Nat} {x : va_E} {H1 : Heap} (hx : ∀ b, va_up (cellOf cs S) q x b = cellOf cs (nw S k n q) b) (hP : va_P D vwCl (([] ++ va_pl (gL S) (cellOf cs S)) ++ [(q, x)]) H1) (hD : va_D (fun q => lo ≤ q) (([] ++ va_pl (gL S) (cellOf cs S)) ++ [(q, x)])) : q ∉ gL S ∧ hp D cs lo (nw S k n q) H1 := by
  have hq : q ∉ gL S := va_pl_fresh2 hD
  have e : (([] ++ va_pl (gL S) (cellOf cs S)) ++ [(q, x)] : va_W) = [] ++ va_pl (gL (nw S k n q)) (cellOf cs (nw S k n q)) := by
    rw [List.append_assoc, va_pl_push hq]
    exact pl_eq hx
  rw [e] at hP hD
  exact ⟨hq, hP, hD⟩
theorem q_new (B : Bx p m c cc nL s args own D cs lo) (h : Hx D cs lo s S H locs) {ci index N : Nat} {C : String} {T : u_T} (hc : vwCl[ci]? = some (C, T, N)) (hin : ∀ w ∈ u_ws C T N, w ∈ T0) (ty0 : Nat → FieldType) (hty : ∀ k, k < N → parseFieldDescriptor (T k).2.2.1 = some (ty0 k)) (hcl : Cond.classLink own index C ∈ T0) (hinst : Cond.instantiable C N ∈ T0) (hini : Cond.initialized C ∈ T0) (h6 : ci < 6) (hfs : ∀ j, j < N → defaultValue (ty0 j) = vp_V (fs0 ci) j) (hcells : cells + 1 ≤ R.cells) (hslots : slots + N ≤ R.slots) (hdg : decode cc pc = .ok (.new index, 3))
    (kk : ∀ (q : Nat) (H1 : Heap), q ∉ gL S → Hx D cs lo s (nw S ci 0 q) H1 locs → W p l e R s m args below meth c H1 locs (cells + 1) (slots + N) Q (F0 m (pc + 3) ls (.ref q :: rest))) : W p l e R s m args below meth c H locs cells slots Q (F0 m pc ls rest) :=
  va_new B.1.1 B.1.2.1 B.1.2.2.2.2 hin ty0 hty B.1.2.2.2.1 (B.ts hcl) (B.ts hinst) (B.ts hini) B.2.1 h.1.1 h.1.2 h.2 (fun q hq => Nat.le_trans B.2.2.1 hq) hc hfs hcells hslots hdg (fun q H1 hP hD hS => by
    obtain ⟨hq, h1⟩ := h.1.new (k := ci) (n := 0) (cell_no h6) hP hD
    exact kk q H1 hq ⟨h1, hS⟩)
theorem q_newi (B : Bx p m c cc nL s args own D cs lo) (h : Hx D cs lo s S H locs) {n : Int32} {N' : Nat} (harr : Cond.arrayClass .int ∈ T0) (hn : ¬ n < 0) (hN : n.toNatClampNeg = N') (hbytes : N' * componentBytes .int ≤ 536870912) (hcells : cells + 1 ≤ R.cells) (hslots : slots + N' ≤ R.slots) (hdg : decode cc pc = .ok (.newarray .int, 2))
    (kk : ∀ (q : Nat) (H1 : Heap), q ∉ gL S → Hx D cs lo s (nw S 6 N' q) H1 locs → W p l e R s m args below meth c H1 locs (cells + 1) (slots + N') Q (F0 m (pc + 2) ls (.ref q :: rest))) : W p l e R s m args below meth c H locs cells slots Q (F0 m pc ls (.int n :: rest)) :=
  va_newa (atype := .int) B.1.1 B.1.2.1 (B.ts harr) rfl B.2.1 h.1.1 h.1.2 h.2 (fun q hq => Nat.le_trans B.2.2.1 hq) (a0 := (N', .inl (fun _ => 0))) (fun cA => rfl) hn hN hbytes hcells hslots hdg (fun q cA H1 hK hP hD hS => by
    have e1 := (hK.2 7 (cA, .int) rfl).2
    have e2 := (hK.2 0 (cs 6, .int) rfl).2
    have e : cA = cs 6 := Option.some.inj (e1.symm.trans e2)
    subst e
    obtain ⟨hq, h1⟩ := h.1.new (k := 6) (n := N') (cell_ni (by decide) (by decide)) hP hD
    exact kk q H1 hq ⟨h1, hS⟩)
theorem q_newz (B : Bx p m c cc nL s args own D cs lo) (h : Hx D cs lo s S H locs) {n : Int32} {N' : Nat} (harr : Cond.arrayClass .boolean ∈ T0) (hn : ¬ n < 0) (hN : n.toNatClampNeg = N') (hbytes : N' * componentBytes .boolean ≤ 536870912) (hcells : cells + 1 ≤ R.cells) (hslots : slots + N' ≤ R.slots) (hdg : decode cc pc = .ok (.newarray .boolean, 2))
    (kk : ∀ (q : Nat) (H1 : Heap), q ∉ gL S → Hx D cs lo s (nw S 7 N' q) H1 locs → W p l e R s m args below meth c H1 locs (cells + 1) (slots + N') Q (F0 m (pc + 2) ls (.ref q :: rest))) : W p l e R s m args below meth c H locs cells slots Q (F0 m pc ls (.int n :: rest)) :=
  va_newa (atype := .boolean) B.1.1 B.1.2.1 (B.ts harr) rfl B.2.1 h.1.1 h.1.2 h.2 (fun q hq => Nat.le_trans B.2.2.1 hq) (a0 := (N', .inl (fun _ => 0))) (fun cA => rfl) hn hN hbytes hcells hslots hdg (fun q cA H1 hK hP hD hS => by
    have e1 := (hK.2 7 (cA, .boolean) rfl).2
    have e2 := (hK.2 1 (cs 7, .boolean) rfl).2
    have e : cA = cs 7 := Option.some.inj (e1.symm.trans e2)
    subst e
    obtain ⟨hq, h1⟩ := h.1.new (k := 7) (n := N') (cell_ni (by decide) (by decide)) hP hD
    exact kk q H1 hq ⟨h1, hS⟩)
theorem q_newj (B : Bx p m c cc nL s args own D cs lo) (h : Hx D cs lo s S H locs) {n : Int32} {N' : Nat} (harr : Cond.arrayClass .long ∈ T0) (hn : ¬ n < 0) (hN : n.toNatClampNeg = N') (hbytes : N' * componentBytes .long ≤ 536870912) (hcells : cells + 1 ≤ R.cells) (hslots : slots + N' ≤ R.slots) (hdg : decode cc pc = .ok (.newarray .long, 2))
    (kk : ∀ (q : Nat) (H1 : Heap), q ∉ gL S → Hx D cs lo s (nw S 11 N' q) H1 locs → W p l e R s m args below meth c H1 locs (cells + 1) (slots + N') Q (F0 m (pc + 2) ls (.ref q :: rest))) : W p l e R s m args below meth c H locs cells slots Q (F0 m pc ls (.int n :: rest)) :=
  va_newa (atype := .long) B.1.1 B.1.2.1 (B.ts harr) rfl B.2.1 h.1.1 h.1.2 h.2 (fun q hq => Nat.le_trans B.2.2.1 hq) (a0 := (N', .inr (.inl (fun _ => 0)))) (fun cA => rfl) hn hN hbytes hcells hslots hdg (fun q cA H1 hK hP hD hS => by
    have e1 := (hK.2 7 (cA, .long) rfl).2
    have e2 := (hK.2 5 (cs 11, .long) rfl).2
    have e : cA = cs 11 := Option.some.inj (e1.symm.trans e2)
    subst e
    obtain ⟨hq, h1⟩ := h.1.new (k := 11) (n := N') cell_nj hP hD
    exact kk q H1 hq ⟨h1, hS⟩)
theorem q_newd (B : Bx p m c cc nL s args own D cs lo) (h : Hx D cs lo s S H locs) {n : Int32} {N' : Nat} (harr : Cond.arrayClass .double ∈ T0) (hn : ¬ n < 0) (hN : n.toNatClampNeg = N') (hbytes : N' * componentBytes .double ≤ 536870912) (hcells : cells + 1 ≤ R.cells) (hslots : slots + N' ≤ R.slots) (hdg : decode cc pc = .ok (.newarray .double, 2))
    (kk : ∀ (q : Nat) (H1 : Heap), q ∉ gL S → Hx D cs lo s (nw S 12 N' q) H1 locs → W p l e R s m args below meth c H1 locs (cells + 1) (slots + N') Q (F0 m (pc + 2) ls (.ref q :: rest))) : W p l e R s m args below meth c H locs cells slots Q (F0 m pc ls (.int n :: rest)) :=
  va_newa (atype := .double) B.1.1 B.1.2.1 (B.ts harr) rfl B.2.1 h.1.1 h.1.2 h.2 (fun q hq => Nat.le_trans B.2.2.1 hq) (a0 := (N', .inr (.inr (.inr (.inl (fun _ => 0)))))) (fun cA => rfl) hn hN hbytes hcells hslots hdg (fun q cA H1 hK hP hD hS => by
    have e1 := (hK.2 7 (cA, .double) rfl).2
    have e2 := (hK.2 6 (cs 12, .double) rfl).2
    have e : cA = cs 12 := Option.some.inj (e1.symm.trans e2)
    subst e
    obtain ⟨hq, h1⟩ := h.1.new (k := 12) (n := N') cell_nd hP hD
    exact kk q H1 hq ⟨h1, hS⟩)
theorem q_newq (B : Bx p m c cc nL s args own D cs lo) (h : Hx D cs lo s S H locs) {n : Int32} {N' kd index : Nat} {C : String} (h8 : 8 ≤ kd) (h11 : kd < 11) (ht : (tysOf cs)[kd - 6]? = some (cs kd, .object C)) (hcl : Cond.classLink own index C ∈ T0) (hover : va_AO C s) (hn : ¬ n < 0) (hN : n.toNatClampNeg = N') (hbytes : N' * 4 ≤ 536870912) (hcells : cells + 1 ≤ R.cells) (hslots : slots + N' ≤ R.slots) (hdg : decode cc pc = .ok (.anewarray index, 3))
    (kk : ∀ (q : Nat) (H1 : Heap), q ∉ gL S → Hx D cs lo s (nw S kd N' q) H1 locs → W p l e R s m args below meth c H1 locs (cells + 1) (slots + N') Q (F0 m (pc + 3) ls (.ref q :: rest))) : W p l e R s m args below meth c H locs cells slots Q (F0 m pc ls (.int n :: rest)) :=
  va_newq B.1.1 B.1.2.1 B.1.2.2.2.1 (B.ts hcl) hover B.2.1 h.1.1 h.1.2 h.2 (fun q hq => Nat.le_trans B.2.2.1 hq) hn hN hbytes hcells hslots hdg (fun q cA H1 hK hP hD hS => by
    obtain ⟨_, _, -, -, -, e1⟩ := (hK.2 7 (cA, .object C) rfl).2
    obtain ⟨_, _, -, -, -, e2⟩ := (B.2.1.2 (kd - 6) (cs kd, .object C) ht).2
    have e : cA = cs kd := Option.some.inj (e1.symm.trans e2)
    subst e
    obtain ⟨hq, h1⟩ := h.1.new (k := kd) (n := N') (cell_nq h8 h11) hP hD
    exact kk q H1 hq ⟨h1, hS⟩)
end RW
end
section
/-! contracts of this claim: a method's predicate transformer wp; from any state that holds S with wp S Q it returns, and Q holds of its answer and of what the heap holds then -/
def MI (l : Launch) (y : MethodName) (cc : ByteArray) (maxL : Nat) (ret : Option FieldType) (fr lv mc ms : Nat) (As : List Value) (wp : HS → (Int32 → HS → Prop) → Prop) : Prop :=
  ∀ (D : va_G) (cs : Nat → ClassId) (lo : Nat) (S : HS) (Q : Int32 → HS → Prop), Met l y (Cond.code y cc maxL ret :: T0) ({ frames := fr, cells := mc, slots := ms, locals := lv }) (va_Pc As (fun U => Cn D cs lo S U ∧ wp S Q)) (va_Qi Q (fun S' t => hp D cs lo S' t.heap) (fun q => lo ≤ q)) mc ms (fun q => lo ≤ q)
theorem MI.of {l : Launch} {y : MethodName} {cc : ByteArray} {maxL fr lv mc ms : Nat} {ret : Option FieldType} {As : List Value} {wp : HS → (Int32 → HS → Prop) → Prop} (hpl : plainName y.cls = true) (hsz : (lg_sl As).length ≤ maxL)
    (body : ∀ (p : Program) (e : Env) (s : State) (m : MethodId) (below : List Frame) (meth : Method) (c : Code) (D : va_G) (cs : Nat → ClassId) (lo : Nat) (S : HS) (Q : Int32 → HS → Prop) (ls : Array Slot), Bx p m c cc maxL s As.toArray y.cls D cs lo → meth.sig.returnType = ret → meth.locks = false → meth.name = y.name → Hx D cs lo s S s.heap [] → lv_has ls maxL (lv_args 0 As) → wp S Q →
      W p l e ({ frames := fr, cells := mc, slots := ms, locals := lv }) s m As.toArray below meth c s.heap [] 0 0 (MQ below (va_Qi Q (fun S' t => hp D cs lo S' t.heap) (fun q => lo ≤ q)) As.toArray s mc ms (fun q => lo ≤ q)) (F0 m 0 ls [])) : MI l y cc maxL ret fr lv mc ms As wp := by
  intro D cs lo S Q
  refine Met.ofW (cc := cc) (maxL := maxL) (ret := ret) hpl rfl ?_
  intro p e s m args below meth c s₁ B hml hv
  obtain ⟨rfl, hC, hw⟩ := hv
  have hts := atoms_spec (ws := Cond.code y cc maxL ret :: T0) B.pre
  have hl := lv_entry As (n := maxL) hsz
  rw [lg_entry_eq]
  generalize (lg_sl As ++ List.replicate (maxL - (lg_sl As).length) Slot.unset).toArray = ls at hl ⊢
  exact body p e s m below meth c D cs lo S Q ls ⟨⟨B.exec, B.bytes, hml, findClass_of_methodNamed B.named, fun w h => hts w (List.mem_cons_of_mem _ h)⟩, hC.2.1, hC.2.2.1, hC.2.2.2⟩ B.returns B.notSynchronized (name_of_methodNamed B.named B.method).1 ⟨hC.1, va_S.rf⟩ hl hw
def MV (l : Launch) (y : MethodName) (cc : ByteArray) (maxL : Nat) (ret : Option FieldType) (fr lv mc ms : Nat) (As : List Value) (wp : HS → (HS → Prop) → Prop) : Prop :=
  ∀ (D : va_G) (cs : Nat → ClassId) (lo : Nat) (S : HS) (Q : HS → Prop), Met l y (Cond.code y cc maxL ret :: T0) ({ frames := fr, cells := mc, slots := ms, locals := lv }) (va_Pc As (fun U => Cn D cs lo S U ∧ wp S Q)) (va_Qv Q (fun S' t => hp D cs lo S' t.heap) (fun q => lo ≤ q)) mc ms (fun q => lo ≤ q)
theorem MV.of {l : Launch} {y : MethodName} {cc : ByteArray} {maxL fr lv mc ms : Nat} {ret : Option FieldType} {As : List Value} {wp : HS → (HS → Prop) → Prop} (hpl : plainName y.cls = true) (hsz : (lg_sl As).length ≤ maxL)
    (body : ∀ (p : Program) (e : Env) (s : State) (m : MethodId) (below : List Frame) (meth : Method) (c : Code) (D : va_G) (cs : Nat → ClassId) (lo : Nat) (S : HS) (Q : HS → Prop) (ls : Array Slot), Bx p m c cc maxL s As.toArray y.cls D cs lo → meth.sig.returnType = ret → meth.locks = false → meth.name = y.name → Hx D cs lo s S s.heap [] → lv_has ls maxL (lv_args 0 As) → wp S Q →
      W p l e ({ frames := fr, cells := mc, slots := ms, locals := lv }) s m As.toArray below meth c s.heap [] 0 0 (MQ below (va_Qv Q (fun S' t => hp D cs lo S' t.heap) (fun q => lo ≤ q)) As.toArray s mc ms (fun q => lo ≤ q)) (F0 m 0 ls [])) : MV l y cc maxL ret fr lv mc ms As wp := by
  intro D cs lo S Q
  refine Met.ofW (cc := cc) (maxL := maxL) (ret := ret) hpl rfl ?_
  intro p e s m args below meth c s₁ B hml hv
  obtain ⟨rfl, hC, hw⟩ := hv
  have hts := atoms_spec (ws := Cond.code y cc maxL ret :: T0) B.pre
  have hl := lv_entry As (n := maxL) hsz
  rw [lg_entry_eq]
  generalize (lg_sl As ++ List.replicate (maxL - (lg_sl As).length) Slot.unset).toArray = ls at hl ⊢
  exact body p e s m below meth c D cs lo S Q ls ⟨⟨B.exec, B.bytes, hml, findClass_of_methodNamed B.named, fun w h => hts w (List.mem_cons_of_mem _ h)⟩, hC.2.1, hC.2.2.1, hC.2.2.2⟩ B.returns B.notSynchronized (name_of_methodNamed B.named B.method).1 ⟨hC.1, va_S.rf⟩ hl hw
def MO (l : Launch) (y : MethodName) (cc : ByteArray) (maxL : Nat) (ret : Option FieldType) (fr lv mc ms : Nat) (As : List Value) (wp : HS → (Option Nat → HS → Prop) → Prop) : Prop :=
  ∀ (D : va_G) (cs : Nat → ClassId) (lo : Nat) (S : HS) (Q : Option Nat → HS → Prop), Met l y (Cond.code y cc maxL ret :: T0) ({ frames := fr, cells := mc, slots := ms, locals := lv }) (va_Pc As (fun U => Cn D cs lo S U ∧ wp S Q)) (va_Qq Q (fun S' t => hp D cs lo S' t.heap) (fun q => lo ≤ q)) mc ms (fun q => lo ≤ q)
theorem MO.of {l : Launch} {y : MethodName} {cc : ByteArray} {maxL fr lv mc ms : Nat} {ret : Option FieldType} {As : List Value} {wp : HS → (Option Nat → HS → Prop) → Prop} (hpl : plainName y.cls = true) (hsz : (lg_sl As).length ≤ maxL)
    (body : ∀ (p : Program) (e : Env) (s : State) (m : MethodId) (below : List Frame) (meth : Method) (c : Code) (D : va_G) (cs : Nat → ClassId) (lo : Nat) (S : HS) (Q : Option Nat → HS → Prop) (ls : Array Slot), Bx p m c cc maxL s As.toArray y.cls D cs lo → meth.sig.returnType = ret → meth.locks = false → meth.name = y.name → Hx D cs lo s S s.heap [] → lv_has ls maxL (lv_args 0 As) → wp S Q →
      W p l e ({ frames := fr, cells := mc, slots := ms, locals := lv }) s m As.toArray below meth c s.heap [] 0 0 (MQ below (va_Qq Q (fun S' t => hp D cs lo S' t.heap) (fun q => lo ≤ q)) As.toArray s mc ms (fun q => lo ≤ q)) (F0 m 0 ls [])) : MO l y cc maxL ret fr lv mc ms As wp := by
  intro D cs lo S Q
  refine Met.ofW (cc := cc) (maxL := maxL) (ret := ret) hpl rfl ?_
  intro p e s m args below meth c s₁ B hml hv
  obtain ⟨rfl, hC, hw⟩ := hv
  have hts := atoms_spec (ws := Cond.code y cc maxL ret :: T0) B.pre
  have hl := lv_entry As (n := maxL) hsz
  rw [lg_entry_eq]
  generalize (lg_sl As ++ List.replicate (maxL - (lg_sl As).length) Slot.unset).toArray = ls at hl ⊢
  exact body p e s m below meth c D cs lo S Q ls ⟨⟨B.exec, B.bytes, hml, findClass_of_methodNamed B.named, fun w h => hts w (List.mem_cons_of_mem _ h)⟩, hC.2.1, hC.2.2.1, hC.2.2.2⟩ B.returns B.notSynchronized (name_of_methodNamed B.named B.method).1 ⟨hC.1, va_S.rf⟩ hl hw
def MF (l : Launch) (y : MethodName) (cc : ByteArray) (maxL : Nat) (ret : Option FieldType) (fr lv mc ms : Nat) (As : List Value) (wp : HS → (UInt32 → HS → Prop) → Prop) : Prop :=
  ∀ (D : va_G) (cs : Nat → ClassId) (lo : Nat) (S : HS) (Q : UInt32 → HS → Prop), Met l y (Cond.code y cc maxL ret :: T0) ({ frames := fr, cells := mc, slots := ms, locals := lv }) (va_Pc As (fun U => Cn D cs lo S U ∧ wp S Q)) (va_Qf Q (fun S' t => hp D cs lo S' t.heap) (fun q => lo ≤ q)) mc ms (fun q => lo ≤ q)
theorem MF.of {l : Launch} {y : MethodName} {cc : ByteArray} {maxL fr lv mc ms : Nat} {ret : Option FieldType} {As : List Value} {wp : HS → (UInt32 → HS → Prop) → Prop} (hpl : plainName y.cls = true) (hsz : (lg_sl As).length ≤ maxL)
    (body : ∀ (p : Program) (e : Env) (s : State) (m : MethodId) (below : List Frame) (meth : Method) (c : Code) (D : va_G) (cs : Nat → ClassId) (lo : Nat) (S : HS) (Q : UInt32 → HS → Prop) (ls : Array Slot), Bx p m c cc maxL s As.toArray y.cls D cs lo → meth.sig.returnType = ret → meth.locks = false → meth.name = y.name → Hx D cs lo s S s.heap [] → lv_has ls maxL (lv_args 0 As) → wp S Q →
      W p l e ({ frames := fr, cells := mc, slots := ms, locals := lv }) s m As.toArray below meth c s.heap [] 0 0 (MQ below (va_Qf Q (fun S' t => hp D cs lo S' t.heap) (fun q => lo ≤ q)) As.toArray s mc ms (fun q => lo ≤ q)) (F0 m 0 ls [])) : MF l y cc maxL ret fr lv mc ms As wp := by
  intro D cs lo S Q
  refine Met.ofW (cc := cc) (maxL := maxL) (ret := ret) hpl rfl ?_
  intro p e s m args below meth c s₁ B hml hv
  obtain ⟨rfl, hC, hw⟩ := hv
  have hts := atoms_spec (ws := Cond.code y cc maxL ret :: T0) B.pre
  have hl := lv_entry As (n := maxL) hsz
  rw [lg_entry_eq]
  generalize (lg_sl As ++ List.replicate (maxL - (lg_sl As).length) Slot.unset).toArray = ls at hl ⊢
  exact body p e s m below meth c D cs lo S Q ls ⟨⟨B.exec, B.bytes, hml, findClass_of_methodNamed B.named, fun w h => hts w (List.mem_cons_of_mem _ h)⟩, hC.2.1, hC.2.2.1, hC.2.2.2⟩ B.returns B.notSynchronized (name_of_methodNamed B.named B.method).1 ⟨hC.1, va_S.rf⟩ hl hw
section CL
variable {p : Program} {l : Launch} {e : Env} {R : Room} {s : State} {m : MethodId} {args : Array Value} {below : List Frame} {meth : Method} {c : Code} {H : Heap} {locs : List Loc} {cells slots : Nat} {Q : State → Prop}
variable {cc : ByteArray} {pc nL lo : Nat} {ls : Array Slot} {rest : List Value} {D : va_G} {cs : Nat → ClassId} {own : String} {S : HS}
theorem CB (B : Bx p m c cc nL s args own D cs lo) {index : Nat} {y : MethodName} {cy : ByteArray} {ny fr lv mc ms : Nat} {ret : Option FieldType} (n : Nat) (hcode : Cond.code y cy ny ret ∈ T0) (hini : Cond.initialized y.cls ∈ T0) (hl : Cond.methodLink own index y ∈ T0)
    (hd : y.cls ≠ "java/lang/invoke/MethodHandle" ∧ y.cls ≠ "java/lang/invoke/VarHandle" ∧ (parseMethodDescriptor y.desc).map (fun d => d.parameters.length) = some n) (hR : fr + 1 ≤ R.frames ∧ 8 + (ny + 11) + lv ≤ R.locals) :
    CallB R s args own index y cy ny ret (Cond.code y cy ny ret :: T0) ({ frames := fr, cells := mc, slots := ms, locals := lv }) mc ms n := by
  have hm : ∀ w ∈ (Cond.code y cy ny ret :: T0), w ∈ T0 := fun w h => by
    rcases List.mem_cons.mp h with h | h
    · rw [h]; exact hcode
    · exact h
  refine ⟨rfl, rfl, hR.1, hR.2, fun w h a' U hW => T0_warm (hm w h) hW (B.ts (hm w h)), List.mem_cons_self, B.ts hcode, B.ts hini, ⟨hd.1, hd.2.1⟩, fun sig h => ?_, B.ts hl⟩
  have h2 := hd.2.2
  rw [h] at h2
  exact (Option.some.inj h2).symm
theorem CN (B : Bx p m c cc nL s args own D cs lo) {index : Nat} {y : MethodName} {cy : ByteArray} {host : String} {ny fr lv mc ms : Nat} {ret : Option FieldType} (n : Nat) (hcode : Cond.code y cy ny ret ∈ T0) (hini : Cond.initialized y.cls ∈ T0) (hl : Cond.methodLinkNest own index y host ∈ T0)
    (hd : y.cls ≠ "java/lang/invoke/MethodHandle" ∧ y.cls ≠ "java/lang/invoke/VarHandle" ∧ (parseMethodDescriptor y.desc).map (fun d => d.parameters.length) = some n) (hR : fr + 1 ≤ R.frames ∧ 8 + (ny + 11) + lv ≤ R.locals) :
    va_CN R s args own index y host cy ny ret (Cond.code y cy ny ret :: T0) ({ frames := fr, cells := mc, slots := ms, locals := lv }) mc ms n := by
  have hm : ∀ w ∈ (Cond.code y cy ny ret :: T0), w ∈ T0 := fun w h => by
    rcases List.mem_cons.mp h with h | h
    · rw [h]; exact hcode
    · exact h
  refine ⟨⟨rfl, rfl, hR.1, hR.2, fun w h a' U hW => T0_warm (hm w h) hW (B.ts (hm w h)), List.mem_cons_self⟩, B.ts hcode, B.ts hini, ⟨hd.1, hd.2.1⟩, fun sig h => ?_, B.ts hl⟩
  have h2 := hd.2.2
  rw [h] at h2
  exact (Option.some.inj h2).symm
theorem hp.recv (B : Bx p m c cc nL s args own D cs lo) (h : hp D cs lo S H) {a ci : Nat} {q : vw_C} (hc : vwCl[ci]? = some q) (h6 : ci < 6) (ha : a ∈ gL S) (hk : gK S a = ci) : ∃ cell : Cell, H[a]? = some cell ∧ cell.vm.isStatics = false ∧ s.vm.findClass q.1 = some cell.cls := by
  obtain ⟨k, hk1⟩ := h.k ha
  rw [cell_o hk h6] at hk1
  exact va_recv B.2.1 h.1 hc hk1
theorem q_callIS (B : Bx p m c cc nL s args own D cs lo) (h : Hx D cs lo s S H locs) {index n ny fr lv mc ms : Nat} {y : MethodName} {cy : ByteArray} {ret : Option FieldType} {As : List Value} {st : List Value} {wp : HS → (Int32 → HS → Prop) → Prop} {Qc : Int32 → HS → Prop} (hM : MI l y cy ny ret fr lv mc ms As wp) (cb : CallB R s args own index y cy ny ret (Cond.code y cy ny ret :: T0) ({ frames := fr, cells := mc, slots := ms, locals := lv }) mc ms n) (hst : Cond.static y ∈ T0) (hst9 : st = As.reverse ++ rest) (hn : As.length = n) (hsz : ls.size = nL) (hW : (rest.map fun v => v.category).sum ≤ 8) (hdg : decode cc pc = .ok (.invokestatic index, 3)) (hf : cells + mc ≤ R.cells ∧ slots + ms ≤ R.slots) (hw : wp S Qc)
    (kk : ∀ (r : Int32) (S1 : HS) (H1 : Heap) (locs1 : List Loc), Qc r S1 → Hx D cs lo s S1 H1 locs1 → W p l e R s m args below meth c H1 locs1 (cells + mc) (slots + ms) Q (F0 m (pc + 3) ls (.int r :: rest))) : W p l e R s m args below meth c H locs cells slots Q (F0 m pc ls st) := by
  subst hst9
  refine va_calli (va_runS (As := As) (rest := rest) B.1 (hM D cs lo S Qc) ⟨cb, B.ts hst⟩ ⟨fun a U g mk q => ⟨q.1, q.2.1.calling, q.2.2⟩, fun U hU hW => ⟨rfl, h.cn B hU hW, hw⟩⟩ rfl hn hsz rfl (lv_room hW) hdg hf) h.2 (fun _ _ h => h) (fun _ h => h) (fun r S1 t H1 locs1 ht hvm hq hb hz hk hS => ?_)
  try dsimp only at hb
  rw [ht] at hb
  exact kk r S1 H1 locs1 hq ⟨hb, hS⟩
theorem q_callIV (B : Bx p m c cc nL s args own D cs lo) (h : Hx D cs lo s S H locs) {index n ny fr lv mc ms b : Nat} {y : MethodName} {cy : ByteArray} {ret : Option FieldType} {As : List Value} {st : List Value} {wp : HS → (Int32 → HS → Prop) → Prop} {Qc : Int32 → HS → Prop} (hM : MI l y cy ny ret fr lv mc ms (.ref b :: As) wp) {ci : Nat} {q : vw_C} (cb : CallB R s args own index y cy ny ret (Cond.code y cy ny ret :: T0) ({ frames := fr, cells := mc, slots := ms, locals := lv }) mc ms n) (hin : Cond.instanceMethod y ∈ T0) (hsel : Cond.selects q.1 y y ∈ T0) (hc : vwCl[ci]? = some q) (h6 : ci < 6) (hb : b ∈ gL S) (hkb : gK S b = ci) (hst9 : st = As.reverse ++ .ref b :: rest) (hn : As.length = n) (hsz : ls.size = nL) (hW : (rest.map fun v => v.category).sum ≤ 8) (hdg : decode cc pc = .ok (.invokevirtual index, 3)) (hf : cells + mc ≤ R.cells ∧ slots + ms ≤ R.slots) (hw : wp S Qc)
    (kk : ∀ (r : Int32) (S1 : HS) (H1 : Heap) (locs1 : List Loc), Qc r S1 → Hx D cs lo s S1 H1 locs1 → W p l e R s m args below meth c H1 locs1 (cells + mc) (slots + ms) Q (F0 m (pc + 3) ls (.int r :: rest))) : W p l e R s m args below meth c H locs cells slots Q (F0 m pc ls st) := by
  subst hst9
  refine va_calli (va_runV (As := As) (rest := rest) B.1 (hM D cs lo S Qc) ⟨cb, B.ts hin, B.ts hsel⟩ ⟨fun a U g mk q => ⟨q.1, q.2.1.calling, q.2.2⟩, hp.recv B h.1 hc h6 hb hkb, fun U hU hW => ⟨rfl, h.cn B hU hW, hw⟩⟩ rfl hn hsz rfl (lv_room hW) hdg hf) h.2 (fun _ _ h => h) (fun _ h => h) (fun r S1 t H1 locs1 ht hvm hq hb hz hk hS => ?_)
  try dsimp only at hb
  rw [ht] at hb
  exact kk r S1 H1 locs1 hq ⟨hb, hS⟩
theorem q_callVS (B : Bx p m c cc nL s args own D cs lo) (h : Hx D cs lo s S H locs) {index n ny fr lv mc ms : Nat} {y : MethodName} {cy : ByteArray} {ret : Option FieldType} {As : List Value} {st : List Value} {wp : HS → (HS → Prop) → Prop} {Qc : HS → Prop} (hM : MV l y cy ny ret fr lv mc ms As wp) (cb : CallB R s args own index y cy ny ret (Cond.code y cy ny ret :: T0) ({ frames := fr, cells := mc, slots := ms, locals := lv }) mc ms n) (hst : Cond.static y ∈ T0) (hst9 : st = As.reverse ++ rest) (hn : As.length = n) (hsz : ls.size = nL) (hW : (rest.map fun v => v.category).sum ≤ 8) (hdg : decode cc pc = .ok (.invokestatic index, 3)) (hf : cells + mc ≤ R.cells ∧ slots + ms ≤ R.slots) (hw : wp S Qc)
    (kk : ∀ (S1 : HS) (H1 : Heap) (locs1 : List Loc), Qc S1 → Hx D cs lo s S1 H1 locs1 → W p l e R s m args below meth c H1 locs1 (cells + mc) (slots + ms) Q (F0 m (pc + 3) ls (rest))) : W p l e R s m args below meth c H locs cells slots Q (F0 m pc ls st) := by
  subst hst9
  refine va_callv (va_runS (As := As) (rest := rest) B.1 (hM D cs lo S Qc) ⟨cb, B.ts hst⟩ ⟨fun a U g mk q => ⟨q.1, q.2.1.calling, q.2.2⟩, fun U hU hW => ⟨rfl, h.cn B hU hW, hw⟩⟩ rfl hn hsz rfl (lv_room hW) hdg hf) h.2 (fun _ _ h => h) (fun _ h => h) (fun S1 t H1 locs1 ht hvm hq hb hz hk hS => ?_)
  try dsimp only at hb
  rw [ht] at hb
  exact kk S1 H1 locs1 hq ⟨hb, hS⟩
theorem q_callVV (B : Bx p m c cc nL s args own D cs lo) (h : Hx D cs lo s S H locs) {index n ny fr lv mc ms b : Nat} {y : MethodName} {cy : ByteArray} {ret : Option FieldType} {As : List Value} {st : List Value} {wp : HS → (HS → Prop) → Prop} {Qc : HS → Prop} (hM : MV l y cy ny ret fr lv mc ms (.ref b :: As) wp) {ci : Nat} {q : vw_C} (cb : CallB R s args own index y cy ny ret (Cond.code y cy ny ret :: T0) ({ frames := fr, cells := mc, slots := ms, locals := lv }) mc ms n) (hin : Cond.instanceMethod y ∈ T0) (hsel : Cond.selects q.1 y y ∈ T0) (hc : vwCl[ci]? = some q) (h6 : ci < 6) (hb : b ∈ gL S) (hkb : gK S b = ci) (hst9 : st = As.reverse ++ .ref b :: rest) (hn : As.length = n) (hsz : ls.size = nL) (hW : (rest.map fun v => v.category).sum ≤ 8) (hdg : decode cc pc = .ok (.invokevirtual index, 3)) (hf : cells + mc ≤ R.cells ∧ slots + ms ≤ R.slots) (hw : wp S Qc)
    (kk : ∀ (S1 : HS) (H1 : Heap) (locs1 : List Loc), Qc S1 → Hx D cs lo s S1 H1 locs1 → W p l e R s m args below meth c H1 locs1 (cells + mc) (slots + ms) Q (F0 m (pc + 3) ls (rest))) : W p l e R s m args below meth c H locs cells slots Q (F0 m pc ls st) := by
  subst hst9
  refine va_callv (va_runV (As := As) (rest := rest) B.1 (hM D cs lo S Qc) ⟨cb, B.ts hin, B.ts hsel⟩ ⟨fun a U g mk q => ⟨q.1, q.2.1.calling, q.2.2⟩, hp.recv B h.1 hc h6 hb hkb, fun U hU hW => ⟨rfl, h.cn B hU hW, hw⟩⟩ rfl hn hsz rfl (lv_room hW) hdg hf) h.2 (fun _ _ h => h) (fun _ h => h) (fun S1 t H1 locs1 ht hvm hq hb hz hk hS => ?_)
  try dsimp only at hb
  rw [ht] at hb
  exact kk S1 H1 locs1 hq ⟨hb, hS⟩
theorem q_callOS (B : Bx p m c cc nL s args own D cs lo) (h : Hx D cs lo s S H locs) {index n ny fr lv mc ms : Nat} {y : MethodName} {cy : ByteArray} {ret : Option FieldType} {As : List Value} {st : List Value} {wp : HS → (Option Nat → HS → Prop) → Prop} {Qc : Option Nat → HS → Prop} (hM : MO l y cy ny ret fr lv mc ms As wp) (cb : CallB R s args own index y cy ny ret (Cond.code y cy ny ret :: T0) ({ frames := fr, cells := mc, slots := ms, locals := lv }) mc ms n) (hst : Cond.static y ∈ T0) (hst9 : st = As.reverse ++ rest) (hn : As.length = n) (hsz : ls.size = nL) (hW : (rest.map fun v => v.category).sum ≤ 8) (hdg : decode cc pc = .ok (.invokestatic index, 3)) (hf : cells + mc ≤ R.cells ∧ slots + ms ≤ R.slots) (hw : wp S Qc)
    (kk : ∀ (r : Option Nat) (S1 : HS) (H1 : Heap) (locs1 : List Loc), Qc r S1 → Hx D cs lo s S1 H1 locs1 → W p l e R s m args below meth c H1 locs1 (cells + mc) (slots + ms) Q (F0 m (pc + 3) ls (va_rf r :: rest))) : W p l e R s m args below meth c H locs cells slots Q (F0 m pc ls st) := by
  subst hst9
  refine va_callq (va_runS (As := As) (rest := rest) B.1 (hM D cs lo S Qc) ⟨cb, B.ts hst⟩ ⟨fun a U g mk q => ⟨q.1, q.2.1.calling, q.2.2⟩, fun U hU hW => ⟨rfl, h.cn B hU hW, hw⟩⟩ rfl hn hsz rfl (lv_room hW) hdg hf) h.2 (fun _ _ h => h) (fun _ h => h) (fun r S1 t H1 locs1 ht hvm hq hb hz hk hS => ?_)
  try dsimp only at hb
  rw [ht] at hb
  exact kk r S1 H1 locs1 hq ⟨hb, hS⟩
theorem q_callOV (B : Bx p m c cc nL s args own D cs lo) (h : Hx D cs lo s S H locs) {index n ny fr lv mc ms b : Nat} {y : MethodName} {cy : ByteArray} {ret : Option FieldType} {As : List Value} {st : List Value} {wp : HS → (Option Nat → HS → Prop) → Prop} {Qc : Option Nat → HS → Prop} (hM : MO l y cy ny ret fr lv mc ms (.ref b :: As) wp) {ci : Nat} {q : vw_C} (cb : CallB R s args own index y cy ny ret (Cond.code y cy ny ret :: T0) ({ frames := fr, cells := mc, slots := ms, locals := lv }) mc ms n) (hin : Cond.instanceMethod y ∈ T0) (hsel : Cond.selects q.1 y y ∈ T0) (hc : vwCl[ci]? = some q) (h6 : ci < 6) (hb : b ∈ gL S) (hkb : gK S b = ci) (hst9 : st = As.reverse ++ .ref b :: rest) (hn : As.length = n) (hsz : ls.size = nL) (hW : (rest.map fun v => v.category).sum ≤ 8) (hdg : decode cc pc = .ok (.invokevirtual index, 3)) (hf : cells + mc ≤ R.cells ∧ slots + ms ≤ R.slots) (hw : wp S Qc)
    (kk : ∀ (r : Option Nat) (S1 : HS) (H1 : Heap) (locs1 : List Loc), Qc r S1 → Hx D cs lo s S1 H1 locs1 → W p l e R s m args below meth c H1 locs1 (cells + mc) (slots + ms) Q (F0 m (pc + 3) ls (va_rf r :: rest))) : W p l e R s m args below meth c H locs cells slots Q (F0 m pc ls st) := by
  subst hst9
  refine va_callq (va_runV (As := As) (rest := rest) B.1 (hM D cs lo S Qc) ⟨cb, B.ts hin, B.ts hsel⟩ ⟨fun a U g mk q => ⟨q.1, q.2.1.calling, q.2.2⟩, hp.recv B h.1 hc h6 hb hkb, fun U hU hW => ⟨rfl, h.cn B hU hW, hw⟩⟩ rfl hn hsz rfl (lv_room hW) hdg hf) h.2 (fun _ _ h => h) (fun _ h => h) (fun r S1 t H1 locs1 ht hvm hq hb hz hk hS => ?_)
  try dsimp only at hb
  rw [ht] at hb
  exact kk r S1 H1 locs1 hq ⟨hb, hS⟩
theorem q_callFS (B : Bx p m c cc nL s args own D cs lo) (h : Hx D cs lo s S H locs) {index n ny fr lv mc ms : Nat} {y : MethodName} {cy : ByteArray} {ret : Option FieldType} {As : List Value} {st : List Value} {wp : HS → (UInt32 → HS → Prop) → Prop} {Qc : UInt32 → HS → Prop} (hM : MF l y cy ny ret fr lv mc ms As wp) (cb : CallB R s args own index y cy ny ret (Cond.code y cy ny ret :: T0) ({ frames := fr, cells := mc, slots := ms, locals := lv }) mc ms n) (hst : Cond.static y ∈ T0) (hst9 : st = As.reverse ++ rest) (hn : As.length = n) (hsz : ls.size = nL) (hW : (rest.map fun v => v.category).sum ≤ 8) (hdg : decode cc pc = .ok (.invokestatic index, 3)) (hf : cells + mc ≤ R.cells ∧ slots + ms ≤ R.slots) (hw : wp S Qc)
    (kk : ∀ (r : UInt32) (S1 : HS) (H1 : Heap) (locs1 : List Loc), Qc r S1 → Hx D cs lo s S1 H1 locs1 → W p l e R s m args below meth c H1 locs1 (cells + mc) (slots + ms) Q (F0 m (pc + 3) ls (.float r :: rest))) : W p l e R s m args below meth c H locs cells slots Q (F0 m pc ls st) := by
  subst hst9
  refine va_callf (va_runS (As := As) (rest := rest) B.1 (hM D cs lo S Qc) ⟨cb, B.ts hst⟩ ⟨fun a U g mk q => ⟨q.1, q.2.1.calling, q.2.2⟩, fun U hU hW => ⟨rfl, h.cn B hU hW, hw⟩⟩ rfl hn hsz rfl (lv_room hW) hdg hf) h.2 (fun _ _ h => h) (fun _ h => h) (fun r S1 t H1 locs1 ht hvm hq hb hz hk hS => ?_)
  try dsimp only at hb
  rw [ht] at hb
  exact kk r S1 H1 locs1 hq ⟨hb, hS⟩
theorem q_callFV (B : Bx p m c cc nL s args own D cs lo) (h : Hx D cs lo s S H locs) {index n ny fr lv mc ms b : Nat} {y : MethodName} {cy : ByteArray} {ret : Option FieldType} {As : List Value} {st : List Value} {wp : HS → (UInt32 → HS → Prop) → Prop} {Qc : UInt32 → HS → Prop} (hM : MF l y cy ny ret fr lv mc ms (.ref b :: As) wp) {ci : Nat} {q : vw_C} (cb : CallB R s args own index y cy ny ret (Cond.code y cy ny ret :: T0) ({ frames := fr, cells := mc, slots := ms, locals := lv }) mc ms n) (hin : Cond.instanceMethod y ∈ T0) (hsel : Cond.selects q.1 y y ∈ T0) (hc : vwCl[ci]? = some q) (h6 : ci < 6) (hb : b ∈ gL S) (hkb : gK S b = ci) (hst9 : st = As.reverse ++ .ref b :: rest) (hn : As.length = n) (hsz : ls.size = nL) (hW : (rest.map fun v => v.category).sum ≤ 8) (hdg : decode cc pc = .ok (.invokevirtual index, 3)) (hf : cells + mc ≤ R.cells ∧ slots + ms ≤ R.slots) (hw : wp S Qc)
    (kk : ∀ (r : UInt32) (S1 : HS) (H1 : Heap) (locs1 : List Loc), Qc r S1 → Hx D cs lo s S1 H1 locs1 → W p l e R s m args below meth c H1 locs1 (cells + mc) (slots + ms) Q (F0 m (pc + 3) ls (.float r :: rest))) : W p l e R s m args below meth c H locs cells slots Q (F0 m pc ls st) := by
  subst hst9
  refine va_callf (va_runV (As := As) (rest := rest) B.1 (hM D cs lo S Qc) ⟨cb, B.ts hin, B.ts hsel⟩ ⟨fun a U g mk q => ⟨q.1, q.2.1.calling, q.2.2⟩, hp.recv B h.1 hc h6 hb hkb, fun U hU hW => ⟨rfl, h.cn B hU hW, hw⟩⟩ rfl hn hsz rfl (lv_room hW) hdg hf) h.2 (fun _ _ h => h) (fun _ h => h) (fun r S1 t H1 locs1 ht hvm hq hb hz hk hS => ?_)
  try dsimp only at hb
  rw [ht] at hb
  exact kk r S1 H1 locs1 hq ⟨hb, hS⟩
theorem q_callVI (B : Bx p m c cc nL s args own D cs lo) (h : Hx D cs lo s S H locs) {index n ny fr lv mc ms b : Nat} {y : MethodName} {cy : ByteArray} {As : List Value} {st : List Value} {wp : HS → (HS → Prop) → Prop} {Qc : HS → Prop} (hM : MV l y cy ny none fr lv mc ms (.ref b :: As) wp) (cb : CallB R s args own index y cy ny none (Cond.code y cy ny none :: T0) ({ frames := fr, cells := mc, slots := ms, locals := lv }) mc ms n) (hi : y.name = "<init>") (hin : Cond.instanceMethod y ∈ T0) (hst9 : st = As.reverse ++ .ref b :: rest) (hn : As.length = n) (hsz : ls.size = nL) (hW : (rest.map fun v => v.category).sum ≤ 8) (hdg : decode cc pc = .ok (.invokespecial index, 3)) (hf : cells + mc ≤ R.cells ∧ slots + ms ≤ R.slots) (hw : wp S Qc)
    (kk : ∀ (S1 : HS) (H1 : Heap) (locs1 : List Loc), Qc S1 → Hx D cs lo s S1 H1 locs1 → W p l e R s m args below meth c H1 locs1 (cells + mc) (slots + ms) Q (F0 m (pc + 3) ls (rest))) : W p l e R s m args below meth c H locs cells slots Q (F0 m pc ls st) := by
  subst hst9
  refine va_callv (va_runI (As := As) (rest := rest) B.1 (hM D cs lo S Qc) ⟨cb, hi, B.ts hin⟩ ⟨fun a U g mk q => ⟨q.1, q.2.1.calling, q.2.2⟩, fun U hU hW => ⟨rfl, h.cn B hU hW, hw⟩⟩ rfl hn hsz rfl (lv_room hW) hdg hf) h.2 (fun _ _ h => h) (fun _ h => h) (fun S1 t H1 locs1 ht hvm hq hb hz hk hS => ?_)
  try dsimp only at hb
  rw [ht] at hb
  exact kk S1 H1 locs1 hq ⟨hb, hS⟩
theorem q_callVIN (B : Bx p m c cc nL s args own D cs lo) (h : Hx D cs lo s S H locs) {index n ny fr lv mc ms b : Nat} {y : MethodName} {cy : ByteArray} {As : List Value} {st : List Value} {wp : HS → (HS → Prop) → Prop} {Qc : HS → Prop} (hM : MV l y cy ny none fr lv mc ms (.ref b :: As) wp) {host : String} (cb : va_CN R s args own index y host cy ny none (Cond.code y cy ny none :: T0) ({ frames := fr, cells := mc, slots := ms, locals := lv }) mc ms n) (hi : y.name = "<init>") (hin : Cond.instanceMethod y ∈ T0) (hst9 : st = As.reverse ++ .ref b :: rest) (hn : As.length = n) (hsz : ls.size = nL) (hW : (rest.map fun v => v.category).sum ≤ 8) (hdg : decode cc pc = .ok (.invokespecial index, 3)) (hf : cells + mc ≤ R.cells ∧ slots + ms ≤ R.slots) (hw : wp S Qc)
    (kk : ∀ (S1 : HS) (H1 : Heap) (locs1 : List Loc), Qc S1 → Hx D cs lo s S1 H1 locs1 → W p l e R s m args below meth c H1 locs1 (cells + mc) (slots + ms) Q (F0 m (pc + 3) ls (rest))) : W p l e R s m args below meth c H locs cells slots Q (F0 m pc ls st) := by
  subst hst9
  refine va_callv (va_runIN (As := As) (rest := rest) B.1 (hM D cs lo S Qc) ⟨cb, hi, B.ts hin⟩ ⟨fun a U g mk q => ⟨q.1, q.2.1.calling, q.2.2⟩, fun U hU hW => ⟨rfl, h.cn B hU hW, hw⟩⟩ rfl hn hsz rfl (lv_room hW) hdg hf) h.2 (fun _ _ h => h) (fun _ h => h) (fun S1 t H1 locs1 ht hvm hq hb hz hk hS => ?_)
  try dsimp only at hb
  rw [ht] at hb
  exact kk S1 H1 locs1 hq ⟨hb, hS⟩
theorem q_iret (B : Bx p m c cc nL s args own D cs lo) (hr : meth.sig.returnType = some .int) (hlk : meth.locks = false) (h : Hx D cs lo s S H locs) {v : Int32} {Qc : Int32 → HS → Prop} {mc ms : Nat} (hq : Qc v S) (hdg : decode cc pc = .ok (.ireturn, 1)) (hc : cells ≤ mc) (hs : slots ≤ ms) :
    W p l e R s m args below meth c H locs cells slots (MQ below (va_Qi Qc (fun S' t => hp D cs lo S' t.heap) (fun q => lo ≤ q)) args s mc ms (fun q => lo ≤ q)) (F0 m pc ls [.int v]) :=
  W.widen hc hs (W.iret B.1.1 B.1.2.1 hr (fun t ht hW => ⟨⟨v, S, rfl, hq, by (try dsimp only); rw [ht]; exact h.1⟩, h.2.F ht⟩) h.2.2.2 hdg hlk)
theorem q_zret (B : Bx p m c cc nL s args own D cs lo) (hr : meth.sig.returnType = some .boolean) (hlk : meth.locks = false) (h : Hx D cs lo s S H locs) {v : Int32} {Qc : Int32 → HS → Prop} {mc ms : Nat} (hn : v = 0 ∨ v = 1) (hq : Qc v S) (hdg : decode cc pc = .ok (.ireturn, 1)) (hc : cells ≤ mc) (hs : slots ≤ ms) :
    W p l e R s m args below meth c H locs cells slots (MQ below (va_Qi Qc (fun S' t => hp D cs lo S' t.heap) (fun q => lo ≤ q)) args s mc ms (fun q => lo ≤ q)) (F0 m pc ls [.int v]) :=
  W.widen hc hs (W.zret B.1.1 B.1.2.1 hr (by rcases hn with rfl | rfl <;> decide) (fun t ht hW => ⟨⟨v, S, rfl, hq, by (try dsimp only); rw [ht]; exact h.1⟩, h.2.F ht⟩) h.2.2.2 hdg hlk)
theorem q_vret (B : Bx p m c cc nL s args own D cs lo) (hr : meth.sig.returnType = none) (hlk : meth.locks = false) (h : Hx D cs lo s S H locs) {Qc : HS → Prop} {mc ms : Nat} (hq : Qc S) (hdg : decode cc pc = .ok (.return_, 1)) (hc : cells ≤ mc) (hs : slots ≤ ms) :
    W p l e R s m args below meth c H locs cells slots (MQ below (va_Qv Qc (fun S' t => hp D cs lo S' t.heap) (fun q => lo ≤ q)) args s mc ms (fun q => lo ≤ q)) (F0 m pc ls []) :=
  W.widen hc hs (W.vret B.1.1 B.1.2.1 hr (fun t ht hW => ⟨⟨S, rfl, hq, by (try dsimp only); rw [ht]; exact h.1⟩, h.2.F ht⟩) h.2.2.2 hdg hlk)
theorem q_aret (B : Bx p m c cc nL s args own D cs lo) {C : String} (hr : meth.sig.returnType = some (.object C)) (hlk : meth.locks = false) (h : Hx D cs lo s S H locs) {v : Option Nat} {Qc : Option Nat → HS → Prop} {mc ms : Nat} (hq : Qc v S) (hdg : decode cc pc = .ok (.areturn, 1)) (hc : cells ≤ mc) (hs : slots ≤ ms) :
    W p l e R s m args below meth c H locs cells slots (MQ below (va_Qq Qc (fun S' t => hp D cs lo S' t.heap) (fun q => lo ≤ q)) args s mc ms (fun q => lo ≤ q)) (F0 m pc ls [va_rf v]) :=
  W.widen hc hs (W.aret B.1.1 B.1.2.1 hr (Or.inl ⟨C, rfl⟩) (va_rf_or v) (fun t ht hW => ⟨⟨v, S, rfl, hq, by (try dsimp only); rw [ht]; exact h.1⟩, h.2.F ht⟩) h.2.2.2 hdg hlk)
theorem q_fret (B : Bx p m c cc nL s args own D cs lo) (hr : meth.sig.returnType = some .float) (hlk : meth.locks = false) (h : Hx D cs lo s S H locs) {v : UInt32} {Qc : UInt32 → HS → Prop} {mc ms : Nat} (hq : Qc v S) (hdg : decode cc pc = .ok (.freturn, 1)) (hc : cells ≤ mc) (hs : slots ≤ ms) :
    W p l e R s m args below meth c H locs cells slots (MQ below (va_Qf Qc (fun S' t => hp D cs lo S' t.heap) (fun q => lo ≤ q)) args s mc ms (fun q => lo ≤ q)) (F0 m pc ls [.float v]) :=
  W.widen hc hs (W.fret B.1.1 B.1.2.1 hr (fun t ht hW => ⟨⟨v, S, rfl, hq, by (try dsimp only); rw [ht]; exact h.1⟩, h.2.F ht⟩) h.2.2.2 hdg hlk)
/-- null or not -/
theorem q_ifnull (hexec : p.tables.exec = Jvm.exec) (hb : c.code = cc) {o : Option Nat} {off : Int} {tgt : Nat} (hdg : decode cc pc = .ok (.ifnull off, 3)) (ht : (pc : Int) + off = (tgt : Int)) (k0 : o = none → W p l e R s m args below meth c H locs cells slots Q (F0 m tgt ls rest)) (k1 : ∀ q, o = some q → W p l e R s m args below meth c H locs cells slots Q (F0 m (pc + 3) ls rest)) : W p l e R s m args below meth c H locs cells slots Q (F0 m pc ls (va_rf o :: rest)) := by
  cases o with
  | none => exact lv_ifnullN hexec hb hdg ht (k0 rfl)
  | some q => exact lv_ifnull hexec hb hdg (k1 q rfl)
theorem q_ifnonnull (hexec : p.tables.exec = Jvm.exec) (hb : c.code = cc) {o : Option Nat} {off : Int} {tgt : Nat} (hdg : decode cc pc = .ok (.ifnonnull off, 3)) (ht : (pc : Int) + off = (tgt : Int)) (k0 : o = none → W p l e R s m args below meth c H locs cells slots Q (F0 m (pc + 3) ls rest)) (k1 : ∀ q, o = some q → W p l e R s m args below meth c H locs cells slots Q (F0 m tgt ls rest)) : W p l e R s m args below meth c H locs cells slots Q (F0 m pc ls (va_rf o :: rest)) := by
  cases o with
  | none => exact lv_ifnonnullN hexec hb hdg (k0 rfl)
  | some q => exact lv_ifnonnull hexec hb hdg ht (k1 q rfl)
theorem q_max (B : Bx p m c cc nL s args own D cs lo) {index : Nat} {x y : Int32} (hl : Cond.methodLink own index Lib.Math.max.name ∈ T0) (hst : Cond.static Lib.Math.max.name ∈ T0) (hi : Cond.initialized "java/lang/Math" ∈ T0) (hco : Cond.code Lib.Math.max.name Lib.Math.max.code 2 (some .int) ∈ T0) (hsz : ls.size = nL) (hfr : 1 ≤ R.frames) (hlo : (rest.map fun v => v.category).sum + 13 ≤ R.locals) (hc : cells ≤ R.cells) (hs : slots ≤ R.slots) (hdg : decode cc pc = .ok (.invokestatic index, 3))
    (kk : W p l e R s m args below meth c H locs cells slots Q (F0 m (pc + 3) ls (.int (if x < y then y else x) :: rest))) : W p l e R s m args below meth c H locs cells slots Q (F0 m pc ls (.int y :: .int x :: rest)) :=
  va_mmax B.1.1 B.1.2.1 (B.1.2.2.1.trans hsz.symm) B.1.2.2.2.1 (B.ts hl) (B.ts hst) (B.ts hi) (B.ts hco) hfr hlo hc hs hdg kk
theorem q_min (B : Bx p m c cc nL s args own D cs lo) {index : Nat} {x y : Int32} (hl : Cond.methodLink own index Lib.Math.min.name ∈ T0) (hst : Cond.static Lib.Math.min.name ∈ T0) (hi : Cond.initialized "java/lang/Math" ∈ T0) (hco : Cond.code Lib.Math.min.name Lib.Math.min.code 2 (some .int) ∈ T0) (hsz : ls.size = nL) (hfr : 1 ≤ R.frames) (hlo : (rest.map fun v => v.category).sum + 13 ≤ R.locals) (hc : cells ≤ R.cells) (hs : slots ≤ R.slots) (hdg : decode cc pc = .ok (.invokestatic index, 3))
    (kk : W p l e R s m args below meth c H locs cells slots Q (F0 m (pc + 3) ls (.int (if y < x then y else x) :: rest))) : W p l e R s m args below meth c H locs cells slots Q (F0 m pc ls (.int y :: .int x :: rest)) :=
  va_mmin B.1.1 B.1.2.1 (B.1.2.2.1.trans hsz.symm) B.1.2.2.2.1 (B.ts hl) (B.ts hst) (B.ts hi) (B.ts hco) hfr hlo hc hs hdg kk
theorem q_abs (B : Bx p m c cc nL s args own D cs lo) {index : Nat} {x : Int32} (hl : Cond.methodLink own index Lib.Math.abs.name ∈ T0) (hst : Cond.static Lib.Math.abs.name ∈ T0) (hi : Cond.initialized "java/lang/Math" ∈ T0) (hco : Cond.code Lib.Math.abs.name Lib.Math.abs.code 1 (some .int) ∈ T0) (hsz : ls.size = nL) (hfr : 1 ≤ R.frames) (hlo : (rest.map fun v => v.category).sum + 13 ≤ R.locals) (hc : cells ≤ R.cells) (hs : slots ≤ R.slots) (hdg : decode cc pc = .ok (.invokestatic index, 3))
    (kk : W p l e R s m args below meth c H locs cells slots Q (F0 m (pc + 3) ls (.int (if 0 ≤ x then x else 0 - x) :: rest))) : W p l e R s m args below meth c H locs cells slots Q (F0 m pc ls (.int x :: rest)) :=
  va_mabs B.1.1 B.1.2.1 (B.1.2.2.1.trans hsz.symm) B.1.2.2.2.1 (B.ts hl) (B.ts hst) (B.ts hi) (B.ts hco) hfr hlo hc hs hdg kk
end CL
end
section
/-- an address of the world, of a kind -/
def ok (S : HS) (a k : Nat) : Prop := a ∈ gL S ∧ gK S a = k
theorem inT {ws : List Cond} (ps : List Nat) (hp : ws = ps.filterMap (fun i => lw_tbl[i]?)) (h : ws.all warmW = true) : ∀ w ∈ ws, w ∈ T0 := by
  intro w hw
  have h1 := List.all_eq_true.mp h w hw
  rw [hp] at hw
  obtain ⟨i, -, hi⟩ := List.mem_filterMap.mp hw
  exact T0_mem hi h1
theorem rf_cat (o : Option Nat) : (va_rf o).category = 1 := by cases o <;> rfl
theorem cat_i (x : Int32) : (Value.int x).category = 1 := rfl
theorem cat_r (x : Nat) : (Value.ref x).category = 1 := rfl
theorem cat_n : (Value.null).category = 1 := rfl
theorem cat_j (x : Int64) : (Value.long x).category = 2 := rfl
theorem cat_f (x : UInt32) : (Value.float x).category = 1 := rfl
theorem cat_d (x : UInt64) : (Value.double x).category = 2 := rfl
section LO
variable {p : Program} {l : Launch} {e : Env} {R : Room} {s : State} {m : MethodId} {args : Array Value} {below : List Frame} {meth : Method} {c : Code} {H : Heap} {locs : List Loc} {cells slots : Nat} {Q : State → Prop}
variable {cc : ByteArray} {pc : Nat} {ls : Array Slot} {rest : List Value}
theorem q_aload_n (hexec : p.tables.exec = Jvm.exec) (hb : c.code = cc) {k : Fin 4} {i : Nat} {o : Option Nat} (hdg : decode cc pc = .ok (.aload_n k, 1)) (hi : (k : Nat) = i) (hl : ls[i]? = some (.val (va_rf o)))
    (kk : W p l e R s m args below meth c H locs cells slots Q (F0 m (pc + 1) ls (va_rf o :: rest))) : W p l e R s m args below meth c H locs cells slots Q (F0 m pc ls rest) := by
  cases o with
  | none =>
    exact lv_aload_nN hexec hb hdg hi hl kk
  | some q => exact lv_aload_n hexec hb hdg hi hl kk
theorem q_aload (hexec : p.tables.exec = Jvm.exec) (hb : c.code = cc) {i : Nat} {o : Option Nat} (hdg : decode cc pc = .ok (.aload i, 2)) (hl : ls[i]? = some (.val (va_rf o)))
    (kk : W p l e R s m args below meth c H locs cells slots Q (F0 m (pc + 2) ls (va_rf o :: rest))) : W p l e R s m args below meth c H locs cells slots Q (F0 m pc ls rest) := by
  cases o with
  | none =>
    exact lv_aloadN hexec hb hdg hl kk
  | some q => exact lv_aload hexec hb hdg hl kk
theorem q_astore_n (hexec : p.tables.exec = Jvm.exec) (hb : c.code = cc) {k : Fin 4} {i nL : Nat} {o : Option Nat} {lv lv' : List (Nat × Value)} (hdg : decode cc pc = .ok (.astore_n k, 1)) (hi : (k : Nat) = i) (h : lv_has ls nL lv) (hn : i < nL) (hl : (i, va_rf o) :: lv.filter (fun q => !(q.1 == i) && !(q.1 + 1 == i && q.2.category == 2)) = lv')
    (kk : ∀ ls' : Array Slot, lv_has ls' nL lv' → W p l e R s m args below meth c H locs cells slots Q (F0 m (pc + 1) ls' rest)) : W p l e R s m args below meth c H locs cells slots Q (F0 m pc ls (va_rf o :: rest)) := by
  cases o with
  | none => exact lv_astore_nN hexec hb hdg hi h hn hl kk
  | some q => exact lv_astore_n hexec hb hdg hi h hn hl kk
theorem q_astore (hexec : p.tables.exec = Jvm.exec) (hb : c.code = cc) {i nL : Nat} {o : Option Nat} {lv lv' : List (Nat × Value)} (hdg : decode cc pc = .ok (.astore i, 2)) (h : lv_has ls nL lv) (hn : i < nL) (hl : (i, va_rf o) :: lv.filter (fun q => !(q.1 == i) && !(q.1 + 1 == i && q.2.category == 2)) = lv')
    (kk : ∀ ls' : Array Slot, lv_has ls' nL lv' → W p l e R s m args below meth c H locs cells slots Q (F0 m (pc + 2) ls' rest)) : W p l e R s m args below meth c H locs cells slots Q (F0 m pc ls (va_rf o :: rest)) := by
  cases o with
  | none => exact lv_astoreN hexec hb hdg h hn hl kk
  | some q => exact lv_astore hexec hb hdg h hn hl kk
variable {nL lo : Nat} {D : va_G} {cs : Nat → ClassId} {own : String}
theorem q_objInit (B : Bx p m c cc nL s args own D cs lo) {index a : Nat} (hl : Cond.methodLink own index Lib.objectInit ∈ T0) (hin : Cond.instanceMethod Lib.objectInit ∈ T0) (hco : Cond.code Lib.objectInit ⟨#[0xb1]⟩ 1 none ∈ T0) (hsz : ls.size = nL) (hdg : decode cc pc = .ok (.invokespecial index, 3)) (hfr : 1 ≤ R.frames) (hlo : (rest.map fun v => v.category).sum + 12 ≤ R.locals)
    (kk : W p l e R s m args below meth c H locs cells slots Q (F0 m (pc + 3) ls rest)) : W p l e R s m args below meth c H locs cells slots Q (F0 m pc ls (.ref a :: rest)) :=
  W.objInit B.1.1 B.1.2.1 B.1.2.2.2.1 (B.ts hl) (B.ts hin) (B.ts hco) rfl (hsz.trans B.1.2.2.1.symm) rfl hdg hfr (by show 2 * 0 + _ + 12 ≤ _; omega) kk
end LO
end
section
theorem dX1_placeOf_0 : decode cX1_placeOf 0 = .ok (.iload_n 0, 1) := by decide +kernel
theorem dX1_placeOf_1 : decode cX1_placeOf 1 = .ok (.ifCond .lt 23, 3) := by decide +kernel
theorem dX1_placeOf_4 : decode cX1_placeOf 4 = .ok (.iload_n 0, 1) := by decide +kernel
theorem dX1_placeOf_5 : decode cX1_placeOf 5 = .ok (.bipush 8, 2) := by decide +kernel
theorem dX1_placeOf_7 : decode cX1_placeOf 7 = .ok (.if_icmp .ge 17, 3) := by decide +kernel
theorem dX1_placeOf_10 : decode cX1_placeOf 10 = .ok (.iload_n 1, 1) := by decide +kernel
theorem dX1_placeOf_11 : decode cX1_placeOf 11 = .ok (.ifCond .lt 13, 3) := by decide +kernel
theorem dX1_placeOf_14 : decode cX1_placeOf 14 = .ok (.iload_n 1, 1) := by decide +kernel
theorem dX1_placeOf_15 : decode cX1_placeOf 15 = .ok (.bipush 32, 2) := by decide +kernel
theorem dX1_placeOf_17 : decode cX1_placeOf 17 = .ok (.if_icmp .ge 7, 3) := by decide +kernel
theorem dX1_placeOf_20 : decode cX1_placeOf 20 = .ok (.iconst 1, 1) := by decide +kernel
theorem dX1_placeOf_21 : decode cX1_placeOf 21 = .ok (.goto 4, 3) := by decide +kernel
theorem dX1_placeOf_24 : decode cX1_placeOf 24 = .ok (.iconst 0, 1) := by decide +kernel
theorem dX1_placeOf_25 : decode cX1_placeOf 25 = .ok (.istore_n 2, 1) := by decide +kernel
theorem dX1_placeOf_26 : decode cX1_placeOf 26 = .ok (.iload_n 2, 1) := by decide +kernel
theorem dX1_placeOf_27 : decode cX1_placeOf 27 = .ok (.ifCond .eq 12, 3) := by decide +kernel
theorem dX1_placeOf_30 : decode cX1_placeOf 30 = .ok (.iload_n 0, 1) := by decide +kernel
theorem dX1_placeOf_31 : decode cX1_placeOf 31 = .ok (.bipush 32, 2) := by decide +kernel
theorem dX1_placeOf_33 : decode cX1_placeOf 33 = .ok (.imul, 1) := by decide +kernel
theorem dX1_placeOf_34 : decode cX1_placeOf 34 = .ok (.iload_n 1, 1) := by decide +kernel
theorem dX1_placeOf_35 : decode cX1_placeOf 35 = .ok (.iadd, 1) := by decide +kernel
theorem dX1_placeOf_36 : decode cX1_placeOf 36 = .ok (.goto 4, 3) := by decide +kernel
theorem dX1_placeOf_39 : decode cX1_placeOf 39 = .ok (.iconst (-1), 1) := by decide +kernel
theorem dX1_placeOf_40 : decode cX1_placeOf 40 = .ok (.ireturn, 1) := by decide +kernel
theorem dX1_at_0 : decode cX1_at 0 = .ok (.iload_n 1, 1) := by decide +kernel
theorem dX1_at_1 : decode cX1_at 1 = .ok (.iload_n 2, 1) := by decide +kernel
theorem dX1_at_2 : decode cX1_at 2 = .ok (.invokestatic 15, 3) := by decide +kernel
theorem dX1_at_5 : decode cX1_at 5 = .ok (.istore_n 3, 1) := by decide +kernel
theorem dX1_at_6 : decode cX1_at 6 = .ok (.iload_n 3, 1) := by decide +kernel
theorem dX1_at_7 : decode cX1_at 7 = .ok (.ifCond .lt 21, 3) := by decide +kernel
theorem dX1_at_10 : decode cX1_at 10 = .ok (.iload_n 3, 1) := by decide +kernel
theorem dX1_at_11 : decode cX1_at 11 = .ok (.aload_n 0, 1) := by decide +kernel
theorem dX1_at_12 : decode cX1_at 12 = .ok (.getfield 9, 3) := by decide +kernel
theorem dX1_at_15 : decode cX1_at 15 = .ok (.arraylength, 1) := by decide +kernel
theorem dX1_at_16 : decode cX1_at 16 = .ok (.if_icmp .ge 12, 3) := by decide +kernel
theorem dX1_at_19 : decode cX1_at 19 = .ok (.aload_n 0, 1) := by decide +kernel
theorem dX1_at_20 : decode cX1_at 20 = .ok (.getfield 9, 3) := by decide +kernel
theorem dX1_at_23 : decode cX1_at 23 = .ok (.iload_n 3, 1) := by decide +kernel
theorem dX1_at_24 : decode cX1_at 24 = .ok (.iaload, 1) := by decide +kernel
theorem dX1_at_25 : decode cX1_at 25 = .ok (.goto 4, 3) := by decide +kernel
theorem dX1_at_28 : decode cX1_at 28 = .ok (.iconst 0, 1) := by decide +kernel
theorem dX1_at_29 : decode cX1_at 29 = .ok (.ireturn, 1) := by decide +kernel
theorem dX1_replace_0 : decode cX1_replace 0 = .ok (.iload_n 1, 1) := by decide +kernel
theorem dX1_replace_1 : decode cX1_replace 1 = .ok (.iload_n 2, 1) := by decide +kernel
theorem dX1_replace_2 : decode cX1_replace 2 = .ok (.invokestatic 15, 3) := by decide +kernel
theorem dX1_replace_5 : decode cX1_replace 5 = .ok (.istore 4, 2) := by decide +kernel
theorem dX1_replace_7 : decode cX1_replace 7 = .ok (.iload 4, 2) := by decide +kernel
theorem dX1_replace_9 : decode cX1_replace 9 = .ok (.ifCond .lt 13, 3) := by decide +kernel
theorem dX1_replace_12 : decode cX1_replace 12 = .ok (.iload 4, 2) := by decide +kernel
theorem dX1_replace_14 : decode cX1_replace 14 = .ok (.aload_n 0, 1) := by decide +kernel
theorem dX1_replace_15 : decode cX1_replace 15 = .ok (.getfield 9, 3) := by decide +kernel
theorem dX1_replace_18 : decode cX1_replace 18 = .ok (.arraylength, 1) := by decide +kernel
theorem dX1_replace_19 : decode cX1_replace 19 = .ok (.if_icmp .lt 5, 3) := by decide +kernel
theorem dX1_replace_22 : decode cX1_replace 22 = .ok (.iconst 0, 1) := by decide +kernel
theorem dX1_replace_23 : decode cX1_replace 23 = .ok (.ireturn, 1) := by decide +kernel
theorem dX1_replace_24 : decode cX1_replace 24 = .ok (.aload_n 0, 1) := by decide +kernel
theorem dX1_replace_25 : decode cX1_replace 25 = .ok (.getfield 9, 3) := by decide +kernel
theorem dX1_replace_28 : decode cX1_replace 28 = .ok (.iload 4, 2) := by decide +kernel
theorem dX1_replace_30 : decode cX1_replace 30 = .ok (.iaload, 1) := by decide +kernel
theorem dX1_replace_31 : decode cX1_replace 31 = .ok (.istore 5, 2) := by decide +kernel
theorem dX1_replace_33 : decode cX1_replace 33 = .ok (.aload_n 0, 1) := by decide +kernel
theorem dX1_replace_34 : decode cX1_replace 34 = .ok (.getfield 9, 3) := by decide +kernel
theorem dX1_replace_37 : decode cX1_replace 37 = .ok (.iload 4, 2) := by decide +kernel
theorem dX1_replace_39 : decode cX1_replace 39 = .ok (.iload_n 3, 1) := by decide +kernel
theorem dX1_replace_40 : decode cX1_replace 40 = .ok (.iastore, 1) := by decide +kernel
theorem dX1_replace_41 : decode cX1_replace 41 = .ok (.iload 5, 2) := by decide +kernel
theorem dX1_replace_43 : decode cX1_replace 43 = .ok (.ireturn, 1) := by decide +kernel
theorem dX3_wasPrinted_0 : decode cX3_wasPrinted 0 = .ok (.aload_n 0, 1) := by decide +kernel
theorem dX3_wasPrinted_1 : decode cX3_wasPrinted 1 = .ok (.getfield 26, 3) := by decide +kernel
theorem dX3_wasPrinted_4 : decode cX3_wasPrinted 4 = .ok (.iconst (-1), 1) := by decide +kernel
theorem dX3_wasPrinted_5 : decode cX3_wasPrinted 5 = .ok (.if_icmp .eq 7, 3) := by decide +kernel
theorem dX3_wasPrinted_8 : decode cX3_wasPrinted 8 = .ok (.iconst 1, 1) := by decide +kernel
theorem dX3_wasPrinted_9 : decode cX3_wasPrinted 9 = .ok (.goto 4, 3) := by decide +kernel
theorem dX3_wasPrinted_12 : decode cX3_wasPrinted 12 = .ok (.iconst 0, 1) := by decide +kernel
theorem dX3_wasPrinted_13 : decode cX3_wasPrinted 13 = .ok (.ireturn, 1) := by decide +kernel
theorem dX3_shareOf_0 : decode cX3_shareOf 0 = .ok (.iload_n 2, 1) := by decide +kernel
theorem dX3_shareOf_1 : decode cX3_shareOf 1 = .ok (.aload_n 0, 1) := by decide +kernel
theorem dX3_shareOf_2 : decode cX3_shareOf 2 = .ok (.getfield 32, 3) := by decide +kernel
theorem dX3_shareOf_5 : decode cX3_shareOf 5 = .ok (.if_icmp .lt 11, 3) := by decide +kernel
theorem dX3_shareOf_8 : decode cX3_shareOf 8 = .ok (.iload_n 2, 1) := by decide +kernel
theorem dX3_shareOf_9 : decode cX3_shareOf 9 = .ok (.aload_n 0, 1) := by decide +kernel
theorem dX3_shareOf_10 : decode cX3_shareOf 10 = .ok (.getfield 35, 3) := by decide +kernel
theorem dX3_shareOf_13 : decode cX3_shareOf 13 = .ok (.if_icmp .lt 5, 3) := by decide +kernel
theorem dX3_shareOf_16 : decode cX3_shareOf 16 = .ok (.iconst 0, 1) := by decide +kernel
theorem dX3_shareOf_17 : decode cX3_shareOf 17 = .ok (.ireturn, 1) := by decide +kernel
theorem dX3_shareOf_18 : decode cX3_shareOf 18 = .ok (.iload_n 2, 1) := by decide +kernel
theorem dX3_shareOf_19 : decode cX3_shareOf 19 = .ok (.aload_n 0, 1) := by decide +kernel
theorem dX3_shareOf_20 : decode cX3_shareOf 20 = .ok (.getfield 41, 3) := by decide +kernel
theorem dX3_shareOf_23 : decode cX3_shareOf 23 = .ok (.if_icmp .lt 9, 3) := by decide +kernel
theorem dX3_shareOf_26 : decode cX3_shareOf 26 = .ok (.iload_n 1, 1) := by decide +kernel
theorem dX3_shareOf_27 : decode cX3_shareOf 27 = .ok (.iconst 1, 1) := by decide +kernel
theorem dX3_shareOf_28 : decode cX3_shareOf 28 = .ok (.iadd, 1) := by decide +kernel
theorem dX3_shareOf_29 : decode cX3_shareOf 29 = .ok (.iconst 2, 1) := by decide +kernel
theorem dX3_shareOf_30 : decode cX3_shareOf 30 = .ok (.idiv, 1) := by decide +kernel
theorem dX3_shareOf_31 : decode cX3_shareOf 31 = .ok (.ireturn, 1) := by decide +kernel
theorem dX3_shareOf_32 : decode cX3_shareOf 32 = .ok (.iload_n 2, 1) := by decide +kernel
theorem dX3_shareOf_33 : decode cX3_shareOf 33 = .ok (.aload_n 0, 1) := by decide +kernel
theorem dX3_shareOf_34 : decode cX3_shareOf 34 = .ok (.getfield 38, 3) := by decide +kernel
theorem dX3_shareOf_37 : decode cX3_shareOf 37 = .ok (.if_icmp .ge 9, 3) := by decide +kernel
theorem dX3_shareOf_40 : decode cX3_shareOf 40 = .ok (.iload_n 1, 1) := by decide +kernel
theorem dX3_shareOf_41 : decode cX3_shareOf 41 = .ok (.iconst 2, 1) := by decide +kernel
theorem dX3_shareOf_42 : decode cX3_shareOf 42 = .ok (.idiv, 1) := by decide +kernel
theorem dX3_shareOf_43 : decode cX3_shareOf 43 = .ok (.goto 4, 3) := by decide +kernel
theorem dX3_shareOf_46 : decode cX3_shareOf 46 = .ok (.iload_n 1, 1) := by decide +kernel
theorem dX3_shareOf_47 : decode cX3_shareOf 47 = .ok (.ireturn, 1) := by decide +kernel

def wX1_placeOf (x0 : Int32) (x1 : Int32) (S : HS) (Q : Int32 → HS → Prop) : Prop := ((x0 < 0 → Q (-1 : Int32) S) ∧ (¬ x0 < 0 → (((8 : Int32) ≤ x0 → Q (-1 : Int32) S) ∧ (¬ (8 : Int32) ≤ x0 → ((x1 < 0 → Q (-1 : Int32) S) ∧ (¬ x1 < 0 → (((32 : Int32) ≤ x1 → Q (-1 : Int32) S) ∧ (¬ (32 : Int32) ≤ x1 → Q ((x0 * (32 : Int32)) + x1) S))))))))

def wX1_at (a0 : Nat) (x1 : Int32) (x2 : Int32) (S : HS) (Q : Int32 → HS → Prop) : Prop := (wX1_placeOf x1 x2 S (fun r1 S1 => ((r1 < 0 → Q (0 : Int32) S1) ∧ (¬ r1 < 0 → (ok S1 a0 1 ∧ (∀ o1, o1 = gR S1 32 a0 → (∃ q1, o1 = some q1 ∧ (ok S1 q1 6 ∧ (((nI (gN S1 q1)) ≤ r1 → Q (0 : Int32) S1) ∧ (¬ (nI (gN S1 q1)) ≤ r1 → (ok S1 a0 1 ∧ (∀ o2, o2 = gR S1 32 a0 → (∃ q2, o2 = some q2 ∧ (ok S1 q2 6 ∧ vp_in r1 (gN S1 q2) ∧ Q (gA S1 q2 r1.toNatClampNeg) S1))))))))))))))

def wX1_replace (a0 : Nat) (x1 : Int32) (x2 : Int32) (x3 : Int32) (S : HS) (Q : Int32 → HS → Prop) : Prop := (wX1_placeOf x1 x2 S (fun r1 S1 => ((r1 < 0 → Q (0 : Int32) S1) ∧ (¬ r1 < 0 → (ok S1 a0 1 ∧ (∀ o1, o1 = gR S1 32 a0 → (∃ q1, o1 = some q1 ∧ (ok S1 q1 6 ∧ ((r1 < (nI (gN S1 q1)) → (ok S1 a0 1 ∧ (∀ o2, o2 = gR S1 32 a0 → (∃ q2, o2 = some q2 ∧ (ok S1 q2 6 ∧ vp_in r1 (gN S1 q2) ∧ (ok S1 a0 1 ∧ (∀ o3, o3 = gR S1 32 a0 → (∃ q3, o3 = some q3 ∧ (ok S1 q3 6 ∧ vp_in r1 (gN S1 q3) ∧ (∀ S2, S2 = sA S1 q3 r1.toNatClampNeg x3 → Q (gA S1 q2 r1.toNatClampNeg) S2)))))))))) ∧ (¬ r1 < (nI (gN S1 q1)) → Q (0 : Int32) S1))))))))))

def wX3_wasPrinted (a0 : Nat) (S : HS) (Q : Int32 → HS → Prop) : Prop := (ok S a0 3 ∧ (((gI S 104 a0) = (-1 : Int32) → Q (0 : Int32) S) ∧ (¬ (gI S 104 a0) = (-1 : Int32) → Q (1 : Int32) S)))

def wX3_shareOf (a0 : Nat) (x1 : Int32) (x2 : Int32) (S : HS) (Q : Int32 → HS → Prop) : Prop := (ok S a0 3 ∧ ((x2 < (gI S 97 a0) → Q (0 : Int32) S) ∧ (¬ x2 < (gI S 97 a0) → (ok S a0 3 ∧ ((x2 < (gI S 98 a0) → (ok S a0 3 ∧ ((x2 < (gI S 100 a0) → (ok S a0 3 ∧ (((gI S 99 a0) ≤ x2 → Q x1 S) ∧ (¬ (gI S 99 a0) ≤ x2 → Q (x1 / (2 : Int32)) S)))) ∧ (¬ x2 < (gI S 100 a0) → Q ((x1 + (1 : Int32)) / (2 : Int32)) S)))) ∧ (¬ x2 < (gI S 98 a0) → Q (0 : Int32) S))))))
theorem kC_X1_placeOf : Cond.code yX1_placeOf cX1_placeOf 3 (some .int) ∈ T0 := T0_mem (i := 358) (by decide +kernel) (by decide +kernel)
theorem kI_RX1 : Cond.initialized RX1 ∈ T0 := T0_mem (i := 42) (by decide +kernel) (by decide +kernel)
theorem kM_RX1_15 : Cond.methodLink RX1 15 yX1_placeOf ∈ T0 := T0_mem (i := 356) (by decide +kernel) (by decide +kernel)
theorem hd_X1_placeOf : yX1_placeOf.cls ≠ "java/lang/invoke/MethodHandle" ∧ yX1_placeOf.cls ≠ "java/lang/invoke/VarHandle" ∧ (parseMethodDescriptor yX1_placeOf.desc).map (fun d => d.parameters.length) = some 2 := by decide +kernel
theorem kS_X1_placeOf : Cond.static yX1_placeOf ∈ T0 := T0_mem (i := 357) (by decide +kernel) (by decide +kernel)
theorem kF_RX1_9 : Cond.fieldLink RX1 9 RX1 (TX1 0).2.1 (TX1 0).2.2.1 ∈ T0 := T0_mem (i := 225) (by decide +kernel) (by decide +kernel)
theorem inT_1 : ∀ w ∈ u_ws RX1 TX1 1, w ∈ T0 := inT [226] (by decide +kernel) (by decide +kernel)
theorem kF_RX3_26 : Cond.fieldLink RX3 26 RX3 (TX3 8).2.1 (TX3 8).2.2.1 ∈ T0 := T0_mem (i := 260) (by decide +kernel) (by decide +kernel)
theorem inT_3 : ∀ w ∈ u_ws RX3 TX3 9, w ∈ T0 := inT [263, 265, 267, 269, 271, 273, 275, 277, 279] (by decide +kernel) (by decide +kernel)
theorem kF_RX3_32 : Cond.fieldLink RX3 32 RX3 (TX3 1).2.1 (TX3 1).2.2.1 ∈ T0 := T0_mem (i := 243) (by decide +kernel) (by decide +kernel)
theorem kF_RX3_35 : Cond.fieldLink RX3 35 RX3 (TX3 2).2.1 (TX3 2).2.2.1 ∈ T0 := T0_mem (i := 246) (by decide +kernel) (by decide +kernel)
theorem kF_RX3_41 : Cond.fieldLink RX3 41 RX3 (TX3 4).2.1 (TX3 4).2.2.1 ∈ T0 := T0_mem (i := 250) (by decide +kernel) (by decide +kernel)
theorem kF_RX3_38 : Cond.fieldLink RX3 38 RX3 (TX3 3).2.1 (TX3 3).2.2.1 ∈ T0 := T0_mem (i := 249) (by decide +kernel) (by decide +kernel)
set_option maxHeartbeats 4000000 in
set_option maxRecDepth 100000 in
theorem met_X1_placeOf (l : Launch) (x0 : Int32) (x1 : Int32) : MI l yX1_placeOf cX1_placeOf 3 (some .int) 0 0 0 0 [.int x0, .int x1] (wX1_placeOf x0 x1) := by
  refine MI.of (by decide) (Nat.le_of_ble_eq_true rfl) ?_
  intro p e s m below meth c D cs lo S Q ls B hr hlk hin
  intro h hl hw
  replace hl : lv_has ls 3 [(0, .int x0), (1, .int x1)] := hl
  refine lv_iload_n B.1.1 B.1.2.1 dX1_placeOf_0 rfl (lv_at hl 0 rfl) ?_
  refine lv_if_lt (tgt := 24) B.1.1 B.1.2.1 dX1_placeOf_1 (by decide) (fun hc => ?_) (fun hc => ?_)
  · replace hw := hw.1 hc
    refine lv_iconst (v := (0 : Int32)) B.1.1 B.1.2.1 dX1_placeOf_24 (by decide) ?_
    refine lv_istore_n (i := 2) (lv' := [(2, .int (0 : Int32)), (0, .int x0), (1, .int x1)]) B.1.1 B.1.2.1 dX1_placeOf_25 rfl hl (by decide) rfl (fun ls hl9 => ?_)
    replace hl := hl9
    clear hl9
    refine lv_iload_n B.1.1 B.1.2.1 dX1_placeOf_26 rfl (lv_at hl 0 rfl) ?_
    refine lv_if_eq (tgt := 39) B.1.1 B.1.2.1 dX1_placeOf_27 (by decide) (fun _ => ?_) (fun hc => absurd hc (by decide))
    refine lv_iconst (v := (-1 : Int32)) B.1.1 B.1.2.1 dX1_placeOf_39 (by decide) ?_
    exact q_iret B hr hlk h hw dX1_placeOf_40 (Nat.le_of_ble_eq_true rfl) (Nat.le_of_ble_eq_true rfl)
  · replace hw := hw.2 hc
    refine lv_iload_n B.1.1 B.1.2.1 dX1_placeOf_4 rfl (lv_at hl 0 rfl) ?_
    refine lv_bipush (v := (8 : Int32)) B.1.1 B.1.2.1 dX1_placeOf_5 (by decide) ?_
    refine lv_icmp_ge (tgt := 24) B.1.1 B.1.2.1 dX1_placeOf_7 (by decide) (fun hc => ?_) (fun hc => ?_)
    · replace hw := hw.1 hc
      refine lv_iconst (v := (0 : Int32)) B.1.1 B.1.2.1 dX1_placeOf_24 (by decide) ?_
      refine lv_istore_n (i := 2) (lv' := [(2, .int (0 : Int32)), (0, .int x0), (1, .int x1)]) B.1.1 B.1.2.1 dX1_placeOf_25 rfl hl (by decide) rfl (fun ls hl9 => ?_)
      replace hl := hl9
      clear hl9
      refine lv_iload_n B.1.1 B.1.2.1 dX1_placeOf_26 rfl (lv_at hl 0 rfl) ?_
      refine lv_if_eq (tgt := 39) B.1.1 B.1.2.1 dX1_placeOf_27 (by decide) (fun _ => ?_) (fun hc => absurd hc (by decide))
      refine lv_iconst (v := (-1 : Int32)) B.1.1 B.1.2.1 dX1_placeOf_39 (by decide) ?_
      exact q_iret B hr hlk h hw dX1_placeOf_40 (Nat.le_of_ble_eq_true rfl) (Nat.le_of_ble_eq_true rfl)
    · replace hw := hw.2 hc
      refine lv_iload_n B.1.1 B.1.2.1 dX1_placeOf_10 rfl (lv_at hl 1 rfl) ?_
      refine lv_if_lt (tgt := 24) B.1.1 B.1.2.1 dX1_placeOf_11 (by decide) (fun hc => ?_) (fun hc => ?_)
      · replace hw := hw.1 hc
        refine lv_iconst (v := (0 : Int32)) B.1.1 B.1.2.1 dX1_placeOf_24 (by decide) ?_
        refine lv_istore_n (i := 2) (lv' := [(2, .int (0 : Int32)), (0, .int x0), (1, .int x1)]) B.1.1 B.1.2.1 dX1_placeOf_25 rfl hl (by decide) rfl (fun ls hl9 => ?_)
        replace hl := hl9
        clear hl9
        refine lv_iload_n B.1.1 B.1.2.1 dX1_placeOf_26 rfl (lv_at hl 0 rfl) ?_
        refine lv_if_eq (tgt := 39) B.1.1 B.1.2.1 dX1_placeOf_27 (by decide) (fun _ => ?_) (fun hc => absurd hc (by decide))
        refine lv_iconst (v := (-1 : Int32)) B.1.1 B.1.2.1 dX1_placeOf_39 (by decide) ?_
        exact q_iret B hr hlk h hw dX1_placeOf_40 (Nat.le_of_ble_eq_true rfl) (Nat.le_of_ble_eq_true rfl)
      · replace hw := hw.2 hc
        refine lv_iload_n B.1.1 B.1.2.1 dX1_placeOf_14 rfl (lv_at hl 1 rfl) ?_
        refine lv_bipush (v := (32 : Int32)) B.1.1 B.1.2.1 dX1_placeOf_15 (by decide) ?_
        refine lv_icmp_ge (tgt := 24) B.1.1 B.1.2.1 dX1_placeOf_17 (by decide) (fun hc => ?_) (fun hc => ?_)
        · replace hw := hw.1 hc
          refine lv_iconst (v := (0 : Int32)) B.1.1 B.1.2.1 dX1_placeOf_24 (by decide) ?_
          refine lv_istore_n (i := 2) (lv' := [(2, .int (0 : Int32)), (0, .int x0), (1, .int x1)]) B.1.1 B.1.2.1 dX1_placeOf_25 rfl hl (by decide) rfl (fun ls hl9 => ?_)
          replace hl := hl9
          clear hl9
          refine lv_iload_n B.1.1 B.1.2.1 dX1_placeOf_26 rfl (lv_at hl 0 rfl) ?_
          refine lv_if_eq (tgt := 39) B.1.1 B.1.2.1 dX1_placeOf_27 (by decide) (fun _ => ?_) (fun hc => absurd hc (by decide))
          refine lv_iconst (v := (-1 : Int32)) B.1.1 B.1.2.1 dX1_placeOf_39 (by decide) ?_
          exact q_iret B hr hlk h hw dX1_placeOf_40 (Nat.le_of_ble_eq_true rfl) (Nat.le_of_ble_eq_true rfl)
        · replace hw := hw.2 hc
          refine lv_iconst (v := (1 : Int32)) B.1.1 B.1.2.1 dX1_placeOf_20 (by decide) ?_
          refine lv_goto (tgt := 25) B.1.1 B.1.2.1 dX1_placeOf_21 (by decide) ?_
          refine lv_istore_n (i := 2) (lv' := [(2, .int (1 : Int32)), (0, .int x0), (1, .int x1)]) B.1.1 B.1.2.1 dX1_placeOf_25 rfl hl (by decide) rfl (fun ls hl9 => ?_)
          replace hl := hl9
          clear hl9
          refine lv_iload_n B.1.1 B.1.2.1 dX1_placeOf_26 rfl (lv_at hl 0 rfl) ?_
          refine lv_if_eq (tgt := 39) B.1.1 B.1.2.1 dX1_placeOf_27 (by decide) (fun hc => absurd hc (by decide)) (fun _ => ?_)
          refine lv_iload_n B.1.1 B.1.2.1 dX1_placeOf_30 rfl (lv_at hl 1 rfl) ?_
          refine lv_bipush (v := (32 : Int32)) B.1.1 B.1.2.1 dX1_placeOf_31 (by decide) ?_
          refine lv_imul B.1.1 B.1.2.1 dX1_placeOf_33 ?_
          refine lv_iload_n B.1.1 B.1.2.1 dX1_placeOf_34 rfl (lv_at hl 2 rfl) ?_
          refine lv_iadd B.1.1 B.1.2.1 dX1_placeOf_35 ?_
          refine lv_goto (tgt := 40) B.1.1 B.1.2.1 dX1_placeOf_36 (by decide) ?_
          exact q_iret B hr hlk h hw dX1_placeOf_40 (Nat.le_of_ble_eq_true rfl) (Nat.le_of_ble_eq_true rfl)
set_option maxHeartbeats 4000000 in
set_option maxRecDepth 100000 in
theorem met_X1_at (l : Launch) (a0 : Nat) (x1 : Int32) (x2 : Int32) : MI l yX1_at cX1_at 4 (some .int) 1 22 0 0 [.ref a0, .int x1, .int x2] (wX1_at a0 x1 x2) := by
  refine MI.of (by decide) (Nat.le_of_ble_eq_true rfl) ?_
  intro p e s m below meth c D cs lo S Q ls B hr hlk hin
  intro h hl hw
  replace hl : lv_has ls 4 [(0, .ref a0), (1, .int x1), (2, .int x2)] := hl
  refine lv_iload_n B.1.1 B.1.2.1 dX1_at_0 rfl (lv_at hl 1 rfl) ?_
  refine lv_iload_n B.1.1 B.1.2.1 dX1_at_1 rfl (lv_at hl 2 rfl) ?_
  refine q_callIS B h (met_X1_placeOf l x1 x2) (CB B 2 kC_X1_placeOf kI_RX1 kM_RX1_15 hd_X1_placeOf ⟨Nat.le_of_ble_eq_true rfl, Nat.le_of_ble_eq_true rfl⟩) kS_X1_placeOf (rest := []) rfl rfl hl.1 (Nat.le_of_ble_eq_true rfl) dX1_at_2 ⟨Nat.le_of_ble_eq_true rfl, Nat.le_of_ble_eq_true rfl⟩ hw (fun r1 S1 H locs hw9 h9 => ?_)
  replace hw := hw9
  clear hw9
  replace h := h9
  clear h9
  refine lv_istore_n (i := 3) (lv' := [(3, .int r1), (0, .ref a0), (1, .int x1), (2, .int x2)]) B.1.1 B.1.2.1 dX1_at_5 rfl hl (by decide) rfl (fun ls hl9 => ?_)
  replace hl := hl9
  clear hl9
  refine lv_iload_n B.1.1 B.1.2.1 dX1_at_6 rfl (lv_at hl 0 rfl) ?_
  refine lv_if_lt (tgt := 28) B.1.1 B.1.2.1 dX1_at_7 (by decide) (fun hc => ?_) (fun hc => ?_)
  · replace hw := hw.1 hc
    refine lv_iconst (v := (0 : Int32)) B.1.1 B.1.2.1 dX1_at_28 (by decide) ?_
    exact q_iret B hr hlk h hw dX1_at_29 (Nat.le_of_ble_eq_true rfl) (Nat.le_of_ble_eq_true rfl)
  · replace hw := hw.2 hc
    refine lv_iload_n B.1.1 B.1.2.1 dX1_at_10 rfl (lv_at hl 0 rfl) ?_
    refine lv_aload_n B.1.1 B.1.2.1 dX1_at_11 rfl (lv_at hl 1 rfl) ?_
    obtain ⟨hok, hw⟩ := hw
    refine q_getR B h (ci := 1) (j := 0) (code := 32) rfl inT_1 (by decide) kF_RX1_9 rfl rfl rfl (by decide) dX1_at_12 hok.1 hok.2 ?_
    obtain ⟨o1, hoo1⟩ : ∃ z, z = gR S1 32 a0 := ⟨_, rfl⟩
    rw [← hoo1]
    replace hw := hw o1 hoo1
    obtain ⟨q1, hn, hw⟩ := hw
    subst hn
    replace hl : lv_has ls 4 [(3, .int r1), (0, .ref a0), (1, .int x1), (2, .int x2)] := hl
    obtain ⟨hok, hw⟩ := hw
    refine q_alen B h dX1_at_15 hok.1 (by rw [hok.2]; decide) (by rw [hok.2]; decide) ?_
    refine lv_icmp_ge (tgt := 28) B.1.1 B.1.2.1 dX1_at_16 (by decide) (fun hc => ?_) (fun hc => ?_)
    · replace hw := hw.1 hc
      refine lv_iconst (v := (0 : Int32)) B.1.1 B.1.2.1 dX1_at_28 (by decide) ?_
      exact q_iret B hr hlk h hw dX1_at_29 (Nat.le_of_ble_eq_true rfl) (Nat.le_of_ble_eq_true rfl)
    · replace hw := hw.2 hc
      refine lv_aload_n B.1.1 B.1.2.1 dX1_at_19 rfl (lv_at hl 1 rfl) ?_
      obtain ⟨hok, hw⟩ := hw
      refine q_getR B h (ci := 1) (j := 0) (code := 32) rfl inT_1 (by decide) kF_RX1_9 rfl rfl rfl (by decide) dX1_at_20 hok.1 hok.2 ?_
      obtain ⟨o2, hoo2⟩ : ∃ z, z = gR S1 32 a0 := ⟨_, rfl⟩
      rw [← hoo2]
      replace hw := hw o2 hoo2
      refine lv_iload_n B.1.1 B.1.2.1 dX1_at_23 rfl (lv_at hl 0 rfl) ?_
      obtain ⟨q2, hn, hw⟩ := hw
      subst hn
      replace hl : lv_has ls 4 [(3, .int r1), (0, .ref a0), (1, .int x1), (2, .int x2)] := hl
      obtain ⟨hok, hin9, hw⟩ := hw
      refine q_iald B h dX1_at_24 hok.1 hok.2 hin9 ?_
      refine lv_goto (tgt := 29) B.1.1 B.1.2.1 dX1_at_25 (by decide) ?_
      exact q_iret B hr hlk h hw dX1_at_29 (Nat.le_of_ble_eq_true rfl) (Nat.le_of_ble_eq_true rfl)
set_option maxHeartbeats 4000000 in
set_option maxRecDepth 100000 in
theorem met_X1_replace (l : Launch) (a0 : Nat) (x1 : Int32) (x2 : Int32) (x3 : Int32) : MI l yX1_replace cX1_replace 6 (some .int) 1 22 0 0 [.ref a0, .int x1, .int x2, .int x3] (wX1_replace a0 x1 x2 x3) := by
  refine MI.of (by decide) (Nat.le_of_ble_eq_true rfl) ?_
  intro p e s m below meth c D cs lo S Q ls B hr hlk hin
  intro h hl hw
  replace hl : lv_has ls 6 [(0, .ref a0), (1, .int x1), (2, .int x2), (3, .int x3)] := hl
  refine lv_iload_n B.1.1 B.1.2.1 dX1_replace_0 rfl (lv_at hl 1 rfl) ?_
  refine lv_iload_n B.1.1 B.1.2.1 dX1_replace_1 rfl (lv_at hl 2 rfl) ?_
  refine q_callIS B h (met_X1_placeOf l x1 x2) (CB B 2 kC_X1_placeOf kI_RX1 kM_RX1_15 hd_X1_placeOf ⟨Nat.le_of_ble_eq_true rfl, Nat.le_of_ble_eq_true rfl⟩) kS_X1_placeOf (rest := []) rfl rfl hl.1 (Nat.le_of_ble_eq_true rfl) dX1_replace_2 ⟨Nat.le_of_ble_eq_true rfl, Nat.le_of_ble_eq_true rfl⟩ hw (fun r1 S1 H locs hw9 h9 => ?_)
  replace hw := hw9
  clear hw9
  replace h := h9
  clear h9
  refine lv_istore (i := 4) (lv' := [(4, .int r1), (0, .ref a0), (1, .int x1), (2, .int x2), (3, .int x3)]) B.1.1 B.1.2.1 dX1_replace_5 hl (by decide) rfl (fun ls hl9 => ?_)
  replace hl := hl9
  clear hl9
  refine lv_iload B.1.1 B.1.2.1 dX1_replace_7 (lv_at hl 0 rfl) ?_
  refine lv_if_lt (tgt := 22) B.1.1 B.1.2.1 dX1_replace_9 (by decide) (fun hc => ?_) (fun hc => ?_)
  · replace hw := hw.1 hc
    refine lv_iconst (v := (0 : Int32)) B.1.1 B.1.2.1 dX1_replace_22 (by decide) ?_
    exact q_iret B hr hlk h hw dX1_replace_23 (Nat.le_of_ble_eq_true rfl) (Nat.le_of_ble_eq_true rfl)
  · replace hw := hw.2 hc
    refine lv_iload B.1.1 B.1.2.1 dX1_replace_12 (lv_at hl 0 rfl) ?_
    refine lv_aload_n B.1.1 B.1.2.1 dX1_replace_14 rfl (lv_at hl 1 rfl) ?_
    obtain ⟨hok, hw⟩ := hw
    refine q_getR B h (ci := 1) (j := 0) (code := 32) rfl inT_1 (by decide) kF_RX1_9 rfl rfl rfl (by decide) dX1_replace_15 hok.1 hok.2 ?_
    obtain ⟨o1, hoo1⟩ : ∃ z, z = gR S1 32 a0 := ⟨_, rfl⟩
    rw [← hoo1]
    replace hw := hw o1 hoo1
    obtain ⟨q1, hn, hw⟩ := hw
    subst hn
    replace hl : lv_has ls 6 [(4, .int r1), (0, .ref a0), (1, .int x1), (2, .int x2), (3, .int x3)] := hl
    obtain ⟨hok, hw⟩ := hw
    refine q_alen B h dX1_replace_18 hok.1 (by rw [hok.2]; decide) (by rw [hok.2]; decide) ?_
    refine lv_icmp_lt (tgt := 24) B.1.1 B.1.2.1 dX1_replace_19 (by decide) (fun hc => ?_) (fun hc => ?_)
    · replace hw := hw.1 hc
      refine lv_aload_n B.1.1 B.1.2.1 dX1_replace_24 rfl (lv_at hl 1 rfl) ?_
      obtain ⟨hok, hw⟩ := hw
      refine q_getR B h (ci := 1) (j := 0) (code := 32) rfl inT_1 (by decide) kF_RX1_9 rfl rfl rfl (by decide) dX1_replace_25 hok.1 hok.2 ?_
      obtain ⟨o2, hoo2⟩ : ∃ z, z = gR S1 32 a0 := ⟨_, rfl⟩
      rw [← hoo2]
      replace hw := hw o2 hoo2
      refine lv_iload B.1.1 B.1.2.1 dX1_replace_28 (lv_at hl 0 rfl) ?_
      obtain ⟨q2, hn, hw⟩ := hw
      subst hn
      replace hl : lv_has ls 6 [(4, .int r1), (0, .ref a0), (1, .int x1), (2, .int x2), (3, .int x3)] := hl
      obtain ⟨hok, hin9, hw⟩ := hw
      refine q_iald B h dX1_replace_30 hok.1 hok.2 hin9 ?_
      refine lv_istore (i := 5) (lv' := [(5, .int (gA S1 q2 r1.toNatClampNeg)), (4, .int r1), (0, .ref a0), (1, .int x1), (2, .int x2), (3, .int x3)]) B.1.1 B.1.2.1 dX1_replace_31 hl (by decide) rfl (fun ls hl9 => ?_)
      replace hl := hl9
      clear hl9
      refine lv_aload_n B.1.1 B.1.2.1 dX1_replace_33 rfl (lv_at hl 2 rfl) ?_
      obtain ⟨hok, hw⟩ := hw
      refine q_getR B h (ci := 1) (j := 0) (code := 32) rfl inT_1 (by decide) kF_RX1_9 rfl rfl rfl (by decide) dX1_replace_34 hok.1 hok.2 ?_
      obtain ⟨o3, hoo3⟩ : ∃ z, z = gR S1 32 a0 := ⟨_, rfl⟩
      rw [← hoo3]
      replace hw := hw o3 hoo3
      refine lv_iload B.1.1 B.1.2.1 dX1_replace_37 (lv_at hl 1 rfl) ?_
      refine lv_iload_n B.1.1 B.1.2.1 dX1_replace_39 rfl (lv_at hl 5 rfl) ?_
      obtain ⟨q3, hn, hw⟩ := hw
      subst hn
      replace hl : lv_has ls 6 [(5, .int (gA S1 q2 r1.toNatClampNeg)), (4, .int r1), (0, .ref a0), (1, .int x1), (2, .int x2), (3, .int x3)] := hl
      obtain ⟨hok, hin9, hw⟩ := hw
      refine q_iast B h dX1_replace_40 hok.1 hok.2 hin9 (fun H locs h9 => ?_)
      obtain ⟨S2, hS2, hh⟩ : ∃ z, z = sA S1 q3 r1.toNatClampNeg x3 ∧ Hx D cs lo s z H locs := ⟨_, rfl, h9⟩
      clear h9
      replace h := hh
      clear hh
      replace hw := hw S2 hS2
      refine lv_iload B.1.1 B.1.2.1 dX1_replace_41 (lv_at hl 0 rfl) ?_
      exact q_iret B hr hlk h hw dX1_replace_43 (Nat.le_of_ble_eq_true rfl) (Nat.le_of_ble_eq_true rfl)
    · replace hw := hw.2 hc
      refine lv_iconst (v := (0 : Int32)) B.1.1 B.1.2.1 dX1_replace_22 (by decide) ?_
      exact q_iret B hr hlk h hw dX1_replace_23 (Nat.le_of_ble_eq_true rfl) (Nat.le_of_ble_eq_true rfl)
set_option maxHeartbeats 4000000 in
set_option maxRecDepth 100000 in
theorem met_X3_wasPrinted (l : Launch) (a0 : Nat) : MI l yX3_wasPrinted cX3_wasPrinted 1 (some .boolean) 0 0 0 0 [.ref a0] (wX3_wasPrinted a0) := by
  refine MI.of (by decide) (Nat.le_of_ble_eq_true rfl) ?_
  intro p e s m below meth c D cs lo S Q ls B hr hlk hin
  intro h hl hw
  replace hl : lv_has ls 1 [(0, .ref a0)] := hl
  refine lv_aload_n B.1.1 B.1.2.1 dX3_wasPrinted_0 rfl (lv_at hl 0 rfl) ?_
  obtain ⟨hok, hw⟩ := hw
  refine q_getI B h (ci := 3) (j := 8) (code := 104) rfl inT_3 (by decide) kF_RX3_26 rfl rfl rfl (by decide) dX3_wasPrinted_1 hok.1 hok.2 ?_
  refine lv_iconst (v := (-1 : Int32)) B.1.1 B.1.2.1 dX3_wasPrinted_4 (by decide) ?_
  refine lv_icmp_eq (tgt := 12) B.1.1 B.1.2.1 dX3_wasPrinted_5 (by decide) (fun hc => ?_) (fun hc => ?_)
  · replace hw := hw.1 hc
    refine lv_iconst (v := (0 : Int32)) B.1.1 B.1.2.1 dX3_wasPrinted_12 (by decide) ?_
    exact q_zret B hr hlk h (by decide) hw dX3_wasPrinted_13 (Nat.le_of_ble_eq_true rfl) (Nat.le_of_ble_eq_true rfl)
  · replace hw := hw.2 hc
    refine lv_iconst (v := (1 : Int32)) B.1.1 B.1.2.1 dX3_wasPrinted_8 (by decide) ?_
    refine lv_goto (tgt := 13) B.1.1 B.1.2.1 dX3_wasPrinted_9 (by decide) ?_
    exact q_zret B hr hlk h (by decide) hw dX3_wasPrinted_13 (Nat.le_of_ble_eq_true rfl) (Nat.le_of_ble_eq_true rfl)
set_option maxHeartbeats 4000000 in
set_option maxRecDepth 100000 in
theorem met_X3_shareOf (l : Launch) (a0 : Nat) (x1 : Int32) (x2 : Int32) : MI l yX3_shareOf cX3_shareOf 3 (some .int) 0 0 0 0 [.ref a0, .int x1, .int x2] (wX3_shareOf a0 x1 x2) := by
  refine MI.of (by decide) (Nat.le_of_ble_eq_true rfl) ?_
  intro p e s m below meth c D cs lo S Q ls B hr hlk hin
  intro h hl hw
  replace hl : lv_has ls 3 [(0, .ref a0), (1, .int x1), (2, .int x2)] := hl
  refine lv_iload_n B.1.1 B.1.2.1 dX3_shareOf_0 rfl (lv_at hl 2 rfl) ?_
  refine lv_aload_n B.1.1 B.1.2.1 dX3_shareOf_1 rfl (lv_at hl 0 rfl) ?_
  obtain ⟨hok, hw⟩ := hw
  refine q_getI B h (ci := 3) (j := 1) (code := 97) rfl inT_3 (by decide) kF_RX3_32 rfl rfl rfl (by decide) dX3_shareOf_2 hok.1 hok.2 ?_
  refine lv_icmp_lt (tgt := 16) B.1.1 B.1.2.1 dX3_shareOf_5 (by decide) (fun hc => ?_) (fun hc => ?_)
  · replace hw := hw.1 hc
    refine lv_iconst (v := (0 : Int32)) B.1.1 B.1.2.1 dX3_shareOf_16 (by decide) ?_
    exact q_iret B hr hlk h hw dX3_shareOf_17 (Nat.le_of_ble_eq_true rfl) (Nat.le_of_ble_eq_true rfl)
  · replace hw := hw.2 hc
    refine lv_iload_n B.1.1 B.1.2.1 dX3_shareOf_8 rfl (lv_at hl 2 rfl) ?_
    refine lv_aload_n B.1.1 B.1.2.1 dX3_shareOf_9 rfl (lv_at hl 0 rfl) ?_
    obtain ⟨hok, hw⟩ := hw
    refine q_getI B h (ci := 3) (j := 2) (code := 98) rfl inT_3 (by decide) kF_RX3_35 rfl rfl rfl (by decide) dX3_shareOf_10 hok.1 hok.2 ?_
    refine lv_icmp_lt (tgt := 18) B.1.1 B.1.2.1 dX3_shareOf_13 (by decide) (fun hc => ?_) (fun hc => ?_)
    · replace hw := hw.1 hc
      refine lv_iload_n B.1.1 B.1.2.1 dX3_shareOf_18 rfl (lv_at hl 2 rfl) ?_
      refine lv_aload_n B.1.1 B.1.2.1 dX3_shareOf_19 rfl (lv_at hl 0 rfl) ?_
      obtain ⟨hok, hw⟩ := hw
      refine q_getI B h (ci := 3) (j := 4) (code := 100) rfl inT_3 (by decide) kF_RX3_41 rfl rfl rfl (by decide) dX3_shareOf_20 hok.1 hok.2 ?_
      refine lv_icmp_lt (tgt := 32) B.1.1 B.1.2.1 dX3_shareOf_23 (by decide) (fun hc => ?_) (fun hc => ?_)
      · replace hw := hw.1 hc
        refine lv_iload_n B.1.1 B.1.2.1 dX3_shareOf_32 rfl (lv_at hl 2 rfl) ?_
        refine lv_aload_n B.1.1 B.1.2.1 dX3_shareOf_33 rfl (lv_at hl 0 rfl) ?_
        obtain ⟨hok, hw⟩ := hw
        refine q_getI B h (ci := 3) (j := 3) (code := 99) rfl inT_3 (by decide) kF_RX3_38 rfl rfl rfl (by decide) dX3_shareOf_34 hok.1 hok.2 ?_
        refine lv_icmp_ge (tgt := 46) B.1.1 B.1.2.1 dX3_shareOf_37 (by decide) (fun hc => ?_) (fun hc => ?_)
        · replace hw := hw.1 hc
          refine lv_iload_n B.1.1 B.1.2.1 dX3_shareOf_46 rfl (lv_at hl 1 rfl) ?_
          exact q_iret B hr hlk h hw dX3_shareOf_47 (Nat.le_of_ble_eq_true rfl) (Nat.le_of_ble_eq_true rfl)
        · replace hw := hw.2 hc
          refine lv_iload_n B.1.1 B.1.2.1 dX3_shareOf_40 rfl (lv_at hl 1 rfl) ?_
          refine lv_iconst (v := (2 : Int32)) B.1.1 B.1.2.1 dX3_shareOf_41 (by decide) ?_
          refine lv_idiv B.1.1 B.1.2.1 dX3_shareOf_42 (by decide) ?_
          refine lv_goto (tgt := 47) B.1.1 B.1.2.1 dX3_shareOf_43 (by decide) ?_
          exact q_iret B hr hlk h hw dX3_shareOf_47 (Nat.le_of_ble_eq_true rfl) (Nat.le_of_ble_eq_true rfl)
      · replace hw := hw.2 hc
        refine lv_iload_n B.1.1 B.1.2.1 dX3_shareOf_26 rfl (lv_at hl 1 rfl) ?_
        refine lv_iconst (v := (1 : Int32)) B.1.1 B.1.2.1 dX3_shareOf_27 (by decide) ?_
        refine lv_iadd B.1.1 B.1.2.1 dX3_shareOf_28 ?_
        refine lv_iconst (v := (2 : Int32)) B.1.1 B.1.2.1 dX3_shareOf_29 (by decide) ?_
        refine lv_idiv B.1.1 B.1.2.1 dX3_shareOf_30 (by decide) ?_
        exact q_iret B hr hlk h hw dX3_shareOf_31 (Nat.le_of_ble_eq_true rfl) (Nat.le_of_ble_eq_true rfl)
    · replace hw := hw.2 hc
      refine lv_iconst (v := (0 : Int32)) B.1.1 B.1.2.1 dX3_shareOf_16 (by decide) ?_
      exact q_iret B hr hlk h hw dX3_shareOf_17 (Nat.le_of_ble_eq_true rfl) (Nat.le_of_ble_eq_true rfl)
end
section
theorem dX2_isPrinting_0 : decode cX2_isPrinting 0 = .ok (.aload_n 0, 1) := by decide +kernel
theorem dX2_isPrinting_1 : decode cX2_isPrinting 1 = .ok (.getfield 36, 3) := by decide +kernel
theorem dX2_isPrinting_4 : decode cX2_isPrinting 4 = .ok (.ifnull 7, 3) := by decide +kernel
theorem dX2_isPrinting_7 : decode cX2_isPrinting 7 = .ok (.iconst 1, 1) := by decide +kernel
theorem dX2_isPrinting_8 : decode cX2_isPrinting 8 = .ok (.goto 4, 3) := by decide +kernel
theorem dX2_isPrinting_11 : decode cX2_isPrinting 11 = .ok (.iconst 0, 1) := by decide +kernel
theorem dX2_isPrinting_12 : decode cX2_isPrinting 12 = .ok (.ireturn, 1) := by decide +kernel
theorem dX2_correctByGain_0 : decode cX2_correctByGain 0 = .ok (.aload_n 0, 1) := by decide +kernel
theorem dX2_correctByGain_1 : decode cX2_correctByGain 1 = .ok (.getfield 9, 3) := by decide +kernel
theorem dX2_correctByGain_4 : decode cX2_correctByGain 4 = .ok (.ifCond .le 22, 3) := by decide +kernel
theorem dX2_correctByGain_7 : decode cX2_correctByGain 7 = .ok (.aload_n 0, 1) := by decide +kernel
theorem dX2_correctByGain_8 : decode cX2_correctByGain 8 = .ok (.sipush 10000, 3) := by decide +kernel
theorem dX2_correctByGain_11 : decode cX2_correctByGain 11 = .ok (.aload_n 0, 1) := by decide +kernel
theorem dX2_correctByGain_12 : decode cX2_correctByGain 12 = .ok (.getfield 9, 3) := by decide +kernel
theorem dX2_correctByGain_15 : decode cX2_correctByGain 15 = .ok (.iadd, 1) := by decide +kernel
theorem dX2_correctByGain_16 : decode cX2_correctByGain 16 = .ok (.iconst 1, 1) := by decide +kernel
theorem dX2_correctByGain_17 : decode cX2_correctByGain 17 = .ok (.isub, 1) := by decide +kernel
theorem dX2_correctByGain_18 : decode cX2_correctByGain 18 = .ok (.aload_n 0, 1) := by decide +kernel
theorem dX2_correctByGain_19 : decode cX2_correctByGain 19 = .ok (.getfield 9, 3) := by decide +kernel
theorem dX2_correctByGain_22 : decode cX2_correctByGain 22 = .ok (.idiv, 1) := by decide +kernel
theorem dX2_correctByGain_23 : decode cX2_correctByGain 23 = .ok (.putfield 15, 3) := by decide +kernel
theorem dX2_correctByGain_26 : decode cX2_correctByGain 26 = .ok (.aload_n 0, 1) := by decide +kernel
theorem dX2_correctByGain_27 : decode cX2_correctByGain 27 = .ok (.getfield 15, 3) := by decide +kernel
theorem dX2_correctByGain_30 : decode cX2_correctByGain 30 = .ok (.ireturn, 1) := by decide +kernel
theorem dX2_blockNozzle_0 : decode cX2_blockNozzle 0 = .ok (.iload_n 1, 1) := by decide +kernel
theorem dX2_blockNozzle_1 : decode cX2_blockNozzle 1 = .ok (.ifCond .lt 19, 3) := by decide +kernel
theorem dX2_blockNozzle_4 : decode cX2_blockNozzle 4 = .ok (.iload_n 1, 1) := by decide +kernel
theorem dX2_blockNozzle_5 : decode cX2_blockNozzle 5 = .ok (.aload_n 0, 1) := by decide +kernel
theorem dX2_blockNozzle_6 : decode cX2_blockNozzle 6 = .ok (.getfield 18, 3) := by decide +kernel
theorem dX2_blockNozzle_9 : decode cX2_blockNozzle 9 = .ok (.arraylength, 1) := by decide +kernel
theorem dX2_blockNozzle_10 : decode cX2_blockNozzle 10 = .ok (.if_icmp .ge 10, 3) := by decide +kernel
theorem dX2_blockNozzle_13 : decode cX2_blockNozzle 13 = .ok (.aload_n 0, 1) := by decide +kernel
theorem dX2_blockNozzle_14 : decode cX2_blockNozzle 14 = .ok (.getfield 18, 3) := by decide +kernel
theorem dX2_blockNozzle_17 : decode cX2_blockNozzle 17 = .ok (.iload_n 1, 1) := by decide +kernel
theorem dX2_blockNozzle_18 : decode cX2_blockNozzle 18 = .ok (.iconst 1, 1) := by decide +kernel
theorem dX2_blockNozzle_19 : decode cX2_blockNozzle 19 = .ok (.bastore, 1) := by decide +kernel
theorem dX2_blockNozzle_20 : decode cX2_blockNozzle 20 = .ok (.return_, 1) := by decide +kernel
theorem dX2_freeNozzles_0 : decode cX2_freeNozzles 0 = .ok (.iconst 0, 1) := by decide +kernel
theorem dX2_freeNozzles_1 : decode cX2_freeNozzles 1 = .ok (.istore_n 1, 1) := by decide +kernel
theorem dX2_freeNozzles_2 : decode cX2_freeNozzles 2 = .ok (.iload_n 1, 1) := by decide +kernel
theorem dX2_freeNozzles_3 : decode cX2_freeNozzles 3 = .ok (.aload_n 0, 1) := by decide +kernel
theorem dX2_freeNozzles_4 : decode cX2_freeNozzles 4 = .ok (.getfield 18, 3) := by decide +kernel
theorem dX2_freeNozzles_7 : decode cX2_freeNozzles 7 = .ok (.arraylength, 1) := by decide +kernel
theorem dX2_freeNozzles_8 : decode cX2_freeNozzles 8 = .ok (.if_icmp .ge 16, 3) := by decide +kernel
theorem dX2_freeNozzles_11 : decode cX2_freeNozzles 11 = .ok (.aload_n 0, 1) := by decide +kernel
theorem dX2_freeNozzles_12 : decode cX2_freeNozzles 12 = .ok (.getfield 18, 3) := by decide +kernel
theorem dX2_freeNozzles_15 : decode cX2_freeNozzles 15 = .ok (.iload_n 1, 1) := by decide +kernel
theorem dX2_freeNozzles_16 : decode cX2_freeNozzles 16 = .ok (.iconst 0, 1) := by decide +kernel
theorem dX2_freeNozzles_17 : decode cX2_freeNozzles 17 = .ok (.bastore, 1) := by decide +kernel
theorem dX2_freeNozzles_18 : decode cX2_freeNozzles 18 = .ok (.iinc 1 1, 3) := by decide +kernel
theorem dX2_freeNozzles_21 : decode cX2_freeNozzles 21 = .ok (.goto (-19), 3) := by decide +kernel
theorem dX2_freeNozzles_24 : decode cX2_freeNozzles 24 = .ok (.return_, 1) := by decide +kernel
theorem dX2_blockedCount_0 : decode cX2_blockedCount 0 = .ok (.iconst 0, 1) := by decide +kernel
theorem dX2_blockedCount_1 : decode cX2_blockedCount 1 = .ok (.istore_n 1, 1) := by decide +kernel
theorem dX2_blockedCount_2 : decode cX2_blockedCount 2 = .ok (.iconst 0, 1) := by decide +kernel
theorem dX2_blockedCount_3 : decode cX2_blockedCount 3 = .ok (.istore_n 2, 1) := by decide +kernel
theorem dX2_blockedCount_4 : decode cX2_blockedCount 4 = .ok (.iload_n 2, 1) := by decide +kernel
theorem dX2_blockedCount_5 : decode cX2_blockedCount 5 = .ok (.aload_n 0, 1) := by decide +kernel
theorem dX2_blockedCount_6 : decode cX2_blockedCount 6 = .ok (.getfield 18, 3) := by decide +kernel
theorem dX2_blockedCount_9 : decode cX2_blockedCount 9 = .ok (.arraylength, 1) := by decide +kernel
theorem dX2_blockedCount_10 : decode cX2_blockedCount 10 = .ok (.if_icmp .ge 21, 3) := by decide +kernel
theorem dX2_blockedCount_13 : decode cX2_blockedCount 13 = .ok (.aload_n 0, 1) := by decide +kernel
theorem dX2_blockedCount_14 : decode cX2_blockedCount 14 = .ok (.getfield 18, 3) := by decide +kernel
theorem dX2_blockedCount_17 : decode cX2_blockedCount 17 = .ok (.iload_n 2, 1) := by decide +kernel
theorem dX2_blockedCount_18 : decode cX2_blockedCount 18 = .ok (.baload, 1) := by decide +kernel
theorem dX2_blockedCount_19 : decode cX2_blockedCount 19 = .ok (.ifCond .eq 6, 3) := by decide +kernel
theorem dX2_blockedCount_22 : decode cX2_blockedCount 22 = .ok (.iinc 1 1, 3) := by decide +kernel
theorem dX2_blockedCount_25 : decode cX2_blockedCount 25 = .ok (.iinc 2 1, 3) := by decide +kernel
theorem dX2_blockedCount_28 : decode cX2_blockedCount 28 = .ok (.goto (-24), 3) := by decide +kernel
theorem dX2_blockedCount_31 : decode cX2_blockedCount 31 = .ok (.iload_n 1, 1) := by decide +kernel
theorem dX2_blockedCount_32 : decode cX2_blockedCount 32 = .ok (.ireturn, 1) := by decide +kernel
theorem dX2_isBlocked_0 : decode cX2_isBlocked 0 = .ok (.iload_n 1, 1) := by decide +kernel
theorem dX2_isBlocked_1 : decode cX2_isBlocked 1 = .ok (.ifCond .lt 25, 3) := by decide +kernel
theorem dX2_isBlocked_4 : decode cX2_isBlocked 4 = .ok (.iload_n 1, 1) := by decide +kernel
theorem dX2_isBlocked_5 : decode cX2_isBlocked 5 = .ok (.aload_n 0, 1) := by decide +kernel
theorem dX2_isBlocked_6 : decode cX2_isBlocked 6 = .ok (.getfield 18, 3) := by decide +kernel
theorem dX2_isBlocked_9 : decode cX2_isBlocked 9 = .ok (.arraylength, 1) := by decide +kernel
theorem dX2_isBlocked_10 : decode cX2_isBlocked 10 = .ok (.if_icmp .ge 16, 3) := by decide +kernel
theorem dX2_isBlocked_13 : decode cX2_isBlocked 13 = .ok (.aload_n 0, 1) := by decide +kernel
theorem dX2_isBlocked_14 : decode cX2_isBlocked 14 = .ok (.getfield 18, 3) := by decide +kernel
theorem dX2_isBlocked_17 : decode cX2_isBlocked 17 = .ok (.iload_n 1, 1) := by decide +kernel
theorem dX2_isBlocked_18 : decode cX2_isBlocked 18 = .ok (.baload, 1) := by decide +kernel
theorem dX2_isBlocked_19 : decode cX2_isBlocked 19 = .ok (.ifCond .eq 7, 3) := by decide +kernel
theorem dX2_isBlocked_22 : decode cX2_isBlocked 22 = .ok (.iconst 1, 1) := by decide +kernel
theorem dX2_isBlocked_23 : decode cX2_isBlocked 23 = .ok (.goto 4, 3) := by decide +kernel
theorem dX2_isBlocked_26 : decode cX2_isBlocked 26 = .ok (.iconst 0, 1) := by decide +kernel
theorem dX2_isBlocked_27 : decode cX2_isBlocked 27 = .ok (.ireturn, 1) := by decide +kernel
theorem dX2_setDose_0 : decode cX2_setDose 0 = .ok (.iload_n 1, 1) := by decide +kernel
theorem dX2_setDose_1 : decode cX2_setDose 1 = .ok (.ifCond .lt 32, 3) := by decide +kernel
theorem dX2_setDose_4 : decode cX2_setDose 4 = .ok (.iload_n 1, 1) := by decide +kernel
theorem dX2_setDose_5 : decode cX2_setDose 5 = .ok (.aload_n 0, 1) := by decide +kernel
theorem dX2_setDose_6 : decode cX2_setDose 6 = .ok (.getfield 22, 3) := by decide +kernel
theorem dX2_setDose_9 : decode cX2_setDose 9 = .ok (.arraylength, 1) := by decide +kernel
theorem dX2_setDose_10 : decode cX2_setDose 10 = .ok (.if_icmp .ge 23, 3) := by decide +kernel
theorem dX2_setDose_13 : decode cX2_setDose 13 = .ok (.aload_n 0, 1) := by decide +kernel
theorem dX2_setDose_14 : decode cX2_setDose 14 = .ok (.getfield 22, 3) := by decide +kernel
theorem dX2_setDose_17 : decode cX2_setDose 17 = .ok (.iload_n 1, 1) := by decide +kernel
theorem dX2_setDose_18 : decode cX2_setDose 18 = .ok (.iload_n 2, 1) := by decide +kernel
theorem dX2_setDose_19 : decode cX2_setDose 19 = .ok (.aload_n 0, 1) := by decide +kernel
theorem dX2_setDose_20 : decode cX2_setDose 20 = .ok (.getfield 15, 3) := by decide +kernel
theorem dX2_setDose_23 : decode cX2_setDose 23 = .ok (.imul, 1) := by decide +kernel
theorem dX2_setDose_24 : decode cX2_setDose 24 = .ok (.bipush 100, 2) := by decide +kernel
theorem dX2_setDose_26 : decode cX2_setDose 26 = .ok (.idiv, 1) := by decide +kernel
theorem dX2_setDose_27 : decode cX2_setDose 27 = .ok (.bipush 15, 2) := by decide +kernel
theorem dX2_setDose_29 : decode cX2_setDose 29 = .ok (.invokestatic 46, 3) := by decide +kernel
theorem dX2_setDose_32 : decode cX2_setDose 32 = .ok (.iastore, 1) := by decide +kernel
theorem dX2_setDose_33 : decode cX2_setDose 33 = .ok (.return_, 1) := by decide +kernel
theorem dX2_doseOf_0 : decode cX2_doseOf 0 = .ok (.iload_n 1, 1) := by decide +kernel
theorem dX2_doseOf_1 : decode cX2_doseOf 1 = .ok (.ifCond .lt 21, 3) := by decide +kernel
theorem dX2_doseOf_4 : decode cX2_doseOf 4 = .ok (.iload_n 1, 1) := by decide +kernel
theorem dX2_doseOf_5 : decode cX2_doseOf 5 = .ok (.aload_n 0, 1) := by decide +kernel
theorem dX2_doseOf_6 : decode cX2_doseOf 6 = .ok (.getfield 22, 3) := by decide +kernel
theorem dX2_doseOf_9 : decode cX2_doseOf 9 = .ok (.arraylength, 1) := by decide +kernel
theorem dX2_doseOf_10 : decode cX2_doseOf 10 = .ok (.if_icmp .ge 12, 3) := by decide +kernel
theorem dX2_doseOf_13 : decode cX2_doseOf 13 = .ok (.aload_n 0, 1) := by decide +kernel
theorem dX2_doseOf_14 : decode cX2_doseOf 14 = .ok (.getfield 22, 3) := by decide +kernel
theorem dX2_doseOf_17 : decode cX2_doseOf 17 = .ok (.iload_n 1, 1) := by decide +kernel
theorem dX2_doseOf_18 : decode cX2_doseOf 18 = .ok (.iaload, 1) := by decide +kernel
theorem dX2_doseOf_19 : decode cX2_doseOf 19 = .ok (.goto 4, 3) := by decide +kernel
theorem dX2_doseOf_22 : decode cX2_doseOf 22 = .ok (.iconst 0, 1) := by decide +kernel
theorem dX2_doseOf_23 : decode cX2_doseOf 23 = .ok (.ireturn, 1) := by decide +kernel
theorem dX2_doseHeldBack_0 : decode cX2_doseHeldBack 0 = .ok (.aload_n 0, 1) := by decide +kernel
theorem dX2_doseHeldBack_1 : decode cX2_doseHeldBack 1 = .ok (.iload_n 1, 1) := by decide +kernel
theorem dX2_doseHeldBack_2 : decode cX2_doseHeldBack 2 = .ok (.invokevirtual 52, 3) := by decide +kernel
theorem dX2_doseHeldBack_5 : decode cX2_doseHeldBack 5 = .ok (.ifCond .eq 11, 3) := by decide +kernel
theorem dX2_doseHeldBack_8 : decode cX2_doseHeldBack 8 = .ok (.aload_n 0, 1) := by decide +kernel
theorem dX2_doseHeldBack_9 : decode cX2_doseHeldBack 9 = .ok (.iload_n 1, 1) := by decide +kernel
theorem dX2_doseHeldBack_10 : decode cX2_doseHeldBack 10 = .ok (.invokevirtual 56, 3) := by decide +kernel
theorem dX2_doseHeldBack_13 : decode cX2_doseHeldBack 13 = .ok (.goto 4, 3) := by decide +kernel
theorem dX2_doseHeldBack_16 : decode cX2_doseHeldBack 16 = .ok (.iconst 0, 1) := by decide +kernel
theorem dX2_doseHeldBack_17 : decode cX2_doseHeldBack 17 = .ok (.ireturn, 1) := by decide +kernel
theorem dX2_laidInRow_0 : decode cX2_laidInRow 0 = .ok (.aload_n 0, 1) := by decide +kernel
theorem dX2_laidInRow_1 : decode cX2_laidInRow 1 = .ok (.iload_n 1, 1) := by decide +kernel
theorem dX2_laidInRow_2 : decode cX2_laidInRow 2 = .ok (.invokevirtual 52, 3) := by decide +kernel
theorem dX2_laidInRow_5 : decode cX2_laidInRow 5 = .ok (.ifCond .eq 5, 3) := by decide +kernel
theorem dX2_laidInRow_8 : decode cX2_laidInRow 8 = .ok (.iconst 0, 1) := by decide +kernel
theorem dX2_laidInRow_9 : decode cX2_laidInRow 9 = .ok (.ireturn, 1) := by decide +kernel
theorem dX2_laidInRow_10 : decode cX2_laidInRow 10 = .ok (.aload_n 0, 1) := by decide +kernel
theorem dX2_laidInRow_11 : decode cX2_laidInRow 11 = .ok (.iload_n 1, 1) := by decide +kernel
theorem dX2_laidInRow_12 : decode cX2_laidInRow 12 = .ok (.iconst 1, 1) := by decide +kernel
theorem dX2_laidInRow_13 : decode cX2_laidInRow 13 = .ok (.iadd, 1) := by decide +kernel
theorem dX2_laidInRow_14 : decode cX2_laidInRow 14 = .ok (.invokevirtual 60, 3) := by decide +kernel
theorem dX2_laidInRow_17 : decode cX2_laidInRow 17 = .ok (.iconst 1, 1) := by decide +kernel
theorem dX2_laidInRow_18 : decode cX2_laidInRow 18 = .ok (.iadd, 1) := by decide +kernel
theorem dX2_laidInRow_19 : decode cX2_laidInRow 19 = .ok (.iconst 2, 1) := by decide +kernel
theorem dX2_laidInRow_20 : decode cX2_laidInRow 20 = .ok (.idiv, 1) := by decide +kernel
theorem dX2_laidInRow_21 : decode cX2_laidInRow 21 = .ok (.istore_n 2, 1) := by decide +kernel
theorem dX2_laidInRow_22 : decode cX2_laidInRow 22 = .ok (.aload_n 0, 1) := by decide +kernel
theorem dX2_laidInRow_23 : decode cX2_laidInRow 23 = .ok (.iload_n 1, 1) := by decide +kernel
theorem dX2_laidInRow_24 : decode cX2_laidInRow 24 = .ok (.iconst 1, 1) := by decide +kernel
theorem dX2_laidInRow_25 : decode cX2_laidInRow 25 = .ok (.isub, 1) := by decide +kernel
theorem dX2_laidInRow_26 : decode cX2_laidInRow 26 = .ok (.invokevirtual 60, 3) := by decide +kernel
theorem dX2_laidInRow_29 : decode cX2_laidInRow 29 = .ok (.iconst 2, 1) := by decide +kernel
theorem dX2_laidInRow_30 : decode cX2_laidInRow 30 = .ok (.idiv, 1) := by decide +kernel
theorem dX2_laidInRow_31 : decode cX2_laidInRow 31 = .ok (.istore_n 3, 1) := by decide +kernel
theorem dX2_laidInRow_32 : decode cX2_laidInRow 32 = .ok (.aload_n 0, 1) := by decide +kernel
theorem dX2_laidInRow_33 : decode cX2_laidInRow 33 = .ok (.iload_n 1, 1) := by decide +kernel
theorem dX2_laidInRow_34 : decode cX2_laidInRow 34 = .ok (.invokevirtual 56, 3) := by decide +kernel
theorem dX2_laidInRow_37 : decode cX2_laidInRow 37 = .ok (.iload_n 2, 1) := by decide +kernel
theorem dX2_laidInRow_38 : decode cX2_laidInRow 38 = .ok (.iadd, 1) := by decide +kernel
theorem dX2_laidInRow_39 : decode cX2_laidInRow 39 = .ok (.iload_n 3, 1) := by decide +kernel
theorem dX2_laidInRow_40 : decode cX2_laidInRow 40 = .ok (.iadd, 1) := by decide +kernel
theorem dX2_laidInRow_41 : decode cX2_laidInRow 41 = .ok (.bipush 15, 2) := by decide +kernel
theorem dX2_laidInRow_43 : decode cX2_laidInRow 43 = .ok (.invokestatic 46, 3) := by decide +kernel
theorem dX2_laidInRow_46 : decode cX2_laidInRow 46 = .ok (.aload_n 0, 1) := by decide +kernel
theorem dX2_laidInRow_47 : decode cX2_laidInRow 47 = .ok (.getfield 9, 3) := by decide +kernel
theorem dX2_laidInRow_50 : decode cX2_laidInRow 50 = .ok (.imul, 1) := by decide +kernel
theorem dX2_laidInRow_51 : decode cX2_laidInRow 51 = .ok (.bipush 100, 2) := by decide +kernel
theorem dX2_laidInRow_53 : decode cX2_laidInRow 53 = .ok (.idiv, 1) := by decide +kernel
theorem dX2_laidInRow_54 : decode cX2_laidInRow 54 = .ok (.ireturn, 1) := by decide +kernel
theorem dX2_start_0 : decode cX2_start 0 = .ok (.aload_n 2, 1) := by decide +kernel
theorem dX2_start_1 : decode cX2_start 1 = .ok (.iconst (-1), 1) := by decide +kernel
theorem dX2_start_2 : decode cX2_start 2 = .ok (.putfield 63, 3) := by decide +kernel
theorem dX2_start_5 : decode cX2_start 5 = .ok (.aload_n 2, 1) := by decide +kernel
theorem dX2_start_6 : decode cX2_start 6 = .ok (.iconst 1, 1) := by decide +kernel
theorem dX2_start_7 : decode cX2_start 7 = .ok (.putfield 68, 3) := by decide +kernel
theorem dX2_start_10 : decode cX2_start 10 = .ok (.aload_n 0, 1) := by decide +kernel
theorem dX2_start_11 : decode cX2_start 11 = .ok (.dup, 1) := by decide +kernel
theorem dX2_start_12 : decode cX2_start 12 = .ok (.getfield 29, 3) := by decide +kernel
theorem dX2_start_15 : decode cX2_start 15 = .ok (.iconst 1, 1) := by decide +kernel
theorem dX2_start_16 : decode cX2_start 16 = .ok (.isub, 1) := by decide +kernel
theorem dX2_start_17 : decode cX2_start 17 = .ok (.putfield 29, 3) := by decide +kernel
theorem dX2_start_20 : decode cX2_start 20 = .ok (.aload_n 0, 1) := by decide +kernel
theorem dX2_start_21 : decode cX2_start 21 = .ok (.aload_n 1, 1) := by decide +kernel
theorem dX2_start_22 : decode cX2_start 22 = .ok (.putfield 32, 3) := by decide +kernel
theorem dX2_start_25 : decode cX2_start 25 = .ok (.aload_n 0, 1) := by decide +kernel
theorem dX2_start_26 : decode cX2_start 26 = .ok (.aload_n 2, 1) := by decide +kernel
theorem dX2_start_27 : decode cX2_start 27 = .ok (.putfield 36, 3) := by decide +kernel
theorem dX2_start_30 : decode cX2_start 30 = .ok (.aload_n 0, 1) := by decide +kernel
theorem dX2_start_31 : decode cX2_start 31 = .ok (.iload_n 3, 1) := by decide +kernel
theorem dX2_start_32 : decode cX2_start 32 = .ok (.putfield 40, 3) := by decide +kernel
theorem dX2_start_35 : decode cX2_start 35 = .ok (.aload_n 0, 1) := by decide +kernel
theorem dX2_start_36 : decode cX2_start 36 = .ok (.aload_n 2, 1) := by decide +kernel
theorem dX2_start_37 : decode cX2_start 37 = .ok (.getfield 72, 3) := by decide +kernel
theorem dX2_start_40 : decode cX2_start 40 = .ok (.aload_n 2, 1) := by decide +kernel
theorem dX2_start_41 : decode cX2_start 41 = .ok (.getfield 75, 3) := by decide +kernel
theorem dX2_start_44 : decode cX2_start 44 = .ok (.isub, 1) := by decide +kernel
theorem dX2_start_45 : decode cX2_start 45 = .ok (.putfield 43, 3) := by decide +kernel
theorem dX2_start_48 : decode cX2_start 48 = .ok (.return_, 1) := by decide +kernel

def wX2_isPrinting (a0 : Nat) (S : HS) (Q : Int32 → HS → Prop) : Prop := (ok S a0 2 ∧ (∀ o1, o1 = gR S 71 a0 → ((o1 = none → Q (0 : Int32) S) ∧ (∀ q1, o1 = some q1 → Q (1 : Int32) S))))

def wX2_correctByGain (a0 : Nat) (S : HS) (Q : Int32 → HS → Prop) : Prop := (ok S a0 2 ∧ (((gI S 64 a0) ≤ 0 → (ok S a0 2 ∧ Q (gI S 65 a0) S)) ∧ (¬ (gI S 64 a0) ≤ 0 → (ok S a0 2 ∧ (ok S a0 2 ∧ (¬ (gI S 64 a0) = 0 ∧ (ok S a0 2 ∧ (∀ S1, S1 = sI S 65 a0 ((((10000 : Int32) + (gI S 64 a0)) - (1 : Int32)) / (gI S 64 a0)) → (ok S1 a0 2 ∧ Q (gI S1 65 a0) S1)))))))))

def wX2_blockNozzle (a0 : Nat) (x1 : Int32) (S : HS) (Q : HS → Prop) : Prop := ((x1 < 0 → Q S) ∧ (¬ x1 < 0 → (ok S a0 2 ∧ (∀ o1, o1 = gR S 66 a0 → (∃ q1, o1 = some q1 ∧ (ok S q1 7 ∧ (((nI (gN S q1)) ≤ x1 → Q S) ∧ (¬ (nI (gN S q1)) ≤ x1 → (ok S a0 2 ∧ (∀ o2, o2 = gR S 66 a0 → (∃ q2, o2 = some q2 ∧ (ok S q2 7 ∧ vp_in x1 (gN S q2) ∧ (∀ S1, S1 = sA S q2 x1.toNatClampNeg (1 : Int32) → Q S1)))))))))))))
def wX2_freeNozzles_L2 (c0 : Nat) : Nat → Int32 → HS → (Int32 → HS → Prop) → Prop
  | 0, _, _, _ => False
  | n + 1, m1, S, K => (ok S c0 2 ∧ (∀ o1, o1 = gR S 66 c0 → (∃ q1, o1 = some q1 ∧ (ok S q1 7 ∧ (((nI (gN S q1)) ≤ m1 → K m1 S) ∧ (¬ (nI (gN S q1)) ≤ m1 → (ok S c0 2 ∧ (∀ o2, o2 = gR S 66 c0 → (∃ q2, o2 = some q2 ∧ (ok S q2 7 ∧ vp_in m1 (gN S q2) ∧ (∀ S1, S1 = sA S q2 m1.toNatClampNeg (0 : Int32) → wX2_freeNozzles_L2 c0 n (m1 + (1 : Int32)) S1 K)))))))))))
def wX2_freeNozzles (a0 : Nat) (S : HS) (Q : HS → Prop) : Prop := (∃ n1 : Nat, wX2_freeNozzles_L2 a0 n1 (0 : Int32) S (fun u1 S2 => Q S2))
def wX2_blockedCount_L4 (c0 : Nat) : Nat → Int32 → Int32 → HS → (Int32 → Int32 → HS → Prop) → Prop
  | 0, _, _, _, _ => False
  | n + 1, m1, m2, S, K => (ok S c0 2 ∧ (∀ o1, o1 = gR S 66 c0 → (∃ q1, o1 = some q1 ∧ (ok S q1 7 ∧ (((nI (gN S q1)) ≤ m2 → K m1 m2 S) ∧ (¬ (nI (gN S q1)) ≤ m2 → (ok S c0 2 ∧ (∀ o2, o2 = gR S 66 c0 → (∃ q2, o2 = some q2 ∧ (ok S q2 7 ∧ vp_in m2 (gN S q2) ∧ (((gA S q2 m2.toNatClampNeg) = 0 → wX2_blockedCount_L4 c0 n m1 (m2 + (1 : Int32)) S K) ∧ (¬ (gA S q2 m2.toNatClampNeg) = 0 → wX2_blockedCount_L4 c0 n (m1 + (1 : Int32)) (m2 + (1 : Int32)) S K))))))))))))
def wX2_blockedCount (a0 : Nat) (S : HS) (Q : Int32 → HS → Prop) : Prop := (∃ n1 : Nat, wX2_blockedCount_L4 a0 n1 (0 : Int32) (0 : Int32) S (fun u1 u2 S1 => Q u1 S1))

def wX2_isBlocked (a0 : Nat) (x1 : Int32) (S : HS) (Q : Int32 → HS → Prop) : Prop := ((x1 < 0 → Q (0 : Int32) S) ∧ (¬ x1 < 0 → (ok S a0 2 ∧ (∀ o1, o1 = gR S 66 a0 → (∃ q1, o1 = some q1 ∧ (ok S q1 7 ∧ (((nI (gN S q1)) ≤ x1 → Q (0 : Int32) S) ∧ (¬ (nI (gN S q1)) ≤ x1 → (ok S a0 2 ∧ (∀ o2, o2 = gR S 66 a0 → (∃ q2, o2 = some q2 ∧ (ok S q2 7 ∧ vp_in x1 (gN S q2) ∧ (((gA S q2 x1.toNatClampNeg) = 0 → Q (0 : Int32) S) ∧ (¬ (gA S q2 x1.toNatClampNeg) = 0 → Q (1 : Int32) S))))))))))))))

def wX2_setDose (a0 : Nat) (x1 : Int32) (x2 : Int32) (S : HS) (Q : HS → Prop) : Prop := ((x1 < 0 → Q S) ∧ (¬ x1 < 0 → (ok S a0 2 ∧ (∀ o1, o1 = gR S 67 a0 → (∃ q1, o1 = some q1 ∧ (ok S q1 6 ∧ (((nI (gN S q1)) ≤ x1 → Q S) ∧ (¬ (nI (gN S q1)) ≤ x1 → (ok S a0 2 ∧ (∀ o2, o2 = gR S 67 a0 → (ok S a0 2 ∧ (∃ q2, o2 = some q2 ∧ (ok S q2 6 ∧ vp_in x1 (gN S q2) ∧ (∀ S1, S1 = sA S q2 x1.toNatClampNeg (if (15 : Int32) < ((x2 * (gI S 65 a0)) / (100 : Int32)) then (15 : Int32) else ((x2 * (gI S 65 a0)) / (100 : Int32))) → Q S1))))))))))))))

def wX2_doseOf (a0 : Nat) (x1 : Int32) (S : HS) (Q : Int32 → HS → Prop) : Prop := ((x1 < 0 → Q (0 : Int32) S) ∧ (¬ x1 < 0 → (ok S a0 2 ∧ (∀ o1, o1 = gR S 67 a0 → (∃ q1, o1 = some q1 ∧ (ok S q1 6 ∧ (((nI (gN S q1)) ≤ x1 → Q (0 : Int32) S) ∧ (¬ (nI (gN S q1)) ≤ x1 → (ok S a0 2 ∧ (∀ o2, o2 = gR S 67 a0 → (∃ q2, o2 = some q2 ∧ (ok S q2 6 ∧ vp_in x1 (gN S q2) ∧ Q (gA S q2 x1.toNatClampNeg) S))))))))))))

def wX2_doseHeldBack (a0 : Nat) (x1 : Int32) (S : HS) (Q : Int32 → HS → Prop) : Prop := (ok S a0 2 ∧ (wX2_isBlocked a0 x1 S (fun r1 S1 => ((r1 = 0 → Q (0 : Int32) S1) ∧ (¬ r1 = 0 → (ok S1 a0 2 ∧ (wX2_doseOf a0 x1 S1 (fun r2 S2 => Q r2 S2))))))))

def wX2_laidInRow (a0 : Nat) (x1 : Int32) (S : HS) (Q : Int32 → HS → Prop) : Prop := (ok S a0 2 ∧ (wX2_isBlocked a0 x1 S (fun r1 S1 => ((r1 = 0 → (ok S1 a0 2 ∧ (wX2_doseHeldBack a0 (x1 + (1 : Int32)) S1 (fun r2 S2 => (ok S2 a0 2 ∧ (wX2_doseHeldBack a0 (x1 - (1 : Int32)) S2 (fun r3 S3 => (ok S3 a0 2 ∧ (wX2_doseOf a0 x1 S3 (fun r4 S4 => (ok S4 a0 2 ∧ Q (((if (15 : Int32) < ((r4 + ((r2 + (1 : Int32)) / (2 : Int32))) + (r3 / (2 : Int32))) then (15 : Int32) else ((r4 + ((r2 + (1 : Int32)) / (2 : Int32))) + (r3 / (2 : Int32)))) * (gI S4 64 a0)) / (100 : Int32)) S4))))))))))) ∧ (¬ r1 = 0 → Q (0 : Int32) S1)))))

def wX2_start (a0 : Nat) (p1 : Option Nat) (p2 : Option Nat) (x3 : Int32) (S : HS) (Q : HS → Prop) : Prop := (∃ q1, p2 = some q1 ∧ (ok S q1 3 ∧ (∀ S1, S1 = sI S 102 q1 (-1 : Int32) → (ok S1 q1 3 ∧ (∀ S2, S2 = sI S1 103 q1 (1 : Int32) → (ok S2 a0 2 ∧ (ok S2 a0 2 ∧ (∀ S3, S3 = sI S2 69 a0 ((gI S2 69 a0) - (1 : Int32)) → (ok S3 a0 2 ∧ (∀ S4, S4 = sR S3 70 a0 p1 → (ok S4 a0 2 ∧ (∀ S5, S5 = sR S4 71 a0 (some q1) → (ok S5 a0 2 ∧ (∀ S6, S6 = sI S5 72 a0 x3 → (ok S6 q1 3 ∧ (ok S6 q1 3 ∧ (ok S6 a0 2 ∧ (∀ S7, S7 = sI S6 73 a0 ((gI S6 98 q1) - (gI S6 97 q1)) → Q S7))))))))))))))))))
theorem kF_RX2_36 : Cond.fieldLink RX2 36 RX2 (TX2 7).2.1 (TX2 7).2.2.1 ∈ T0 := T0_mem (i := 73) (by decide +kernel) (by decide +kernel)
theorem inT_2 : ∀ w ∈ u_ws RX2 TX2 10, w ∈ T0 := inT [78, 80, 82, 84, 86, 88, 90, 92, 94, 96] (by decide +kernel) (by decide +kernel)
theorem kF_RX2_9 : Cond.fieldLink RX2 9 RX2 (TX2 0).2.1 (TX2 0).2.2.1 ∈ T0 := T0_mem (i := 63) (by decide +kernel) (by decide +kernel)
theorem kF_RX2_15 : Cond.fieldLink RX2 15 RX2 (TX2 1).2.1 (TX2 1).2.2.1 ∈ T0 := T0_mem (i := 65) (by decide +kernel) (by decide +kernel)
theorem kF_RX2_18 : Cond.fieldLink RX2 18 RX2 (TX2 2).2.1 (TX2 2).2.2.1 ∈ T0 := T0_mem (i := 66) (by decide +kernel) (by decide +kernel)
theorem kF_RX2_22 : Cond.fieldLink RX2 22 RX2 (TX2 3).2.1 (TX2 3).2.2.1 ∈ T0 := T0_mem (i := 67) (by decide +kernel) (by decide +kernel)
theorem kM_RX2_46 : Cond.methodLink RX2 46 Lib.Math.min.name ∈ T0 := T0_mem (i := 462) (by decide +kernel) (by decide +kernel)
theorem kS_math_min : Cond.static Lib.Math.min.name ∈ T0 := T0_mem (i := 232) (by decide +kernel) (by decide +kernel)
theorem kI_java_lang_Math : Cond.initialized "java/lang/Math" ∈ T0 := T0_mem (i := 43) (by decide +kernel) (by decide +kernel)
theorem kC_math_min : Cond.code Lib.Math.min.name Lib.Math.min.code 2 (some .int) ∈ T0 := T0_mem (i := 233) (by decide +kernel) (by decide +kernel)
theorem kC_X2_isBlocked : Cond.code yX2_isBlocked cX2_isBlocked 2 (some .boolean) ∈ T0 := T0_mem (i := 470) (by decide +kernel) (by decide +kernel)
theorem kI_RX2 : Cond.initialized RX2 ∈ T0 := T0_mem (i := 34) (by decide +kernel) (by decide +kernel)
theorem kM_RX2_52 : Cond.methodLink RX2 52 yX2_isBlocked ∈ T0 := T0_mem (i := 467) (by decide +kernel) (by decide +kernel)
theorem hd_X2_isBlocked : yX2_isBlocked.cls ≠ "java/lang/invoke/MethodHandle" ∧ yX2_isBlocked.cls ≠ "java/lang/invoke/VarHandle" ∧ (parseMethodDescriptor yX2_isBlocked.desc).map (fun d => d.parameters.length) = some 1 := by decide +kernel
theorem kO_X2_isBlocked : Cond.instanceMethod yX2_isBlocked ∈ T0 := T0_mem (i := 469) (by decide +kernel) (by decide +kernel)
theorem kV_X2_isBlocked : Cond.selects RX2 yX2_isBlocked yX2_isBlocked ∈ T0 := T0_mem (i := 3) (by decide +kernel) (by decide +kernel)
theorem kC_X2_doseOf : Cond.code yX2_doseOf cX2_doseOf 2 (some .int) ∈ T0 := T0_mem (i := 478) (by decide +kernel) (by decide +kernel)
theorem kM_RX2_56 : Cond.methodLink RX2 56 yX2_doseOf ∈ T0 := T0_mem (i := 475) (by decide +kernel) (by decide +kernel)
theorem hd_X2_doseOf : yX2_doseOf.cls ≠ "java/lang/invoke/MethodHandle" ∧ yX2_doseOf.cls ≠ "java/lang/invoke/VarHandle" ∧ (parseMethodDescriptor yX2_doseOf.desc).map (fun d => d.parameters.length) = some 1 := by decide +kernel
theorem kO_X2_doseOf : Cond.instanceMethod yX2_doseOf ∈ T0 := T0_mem (i := 477) (by decide +kernel) (by decide +kernel)
theorem kV_X2_doseOf : Cond.selects RX2 yX2_doseOf yX2_doseOf ∈ T0 := T0_mem (i := 5) (by decide +kernel) (by decide +kernel)
theorem kC_X2_doseHeldBack : Cond.code yX2_doseHeldBack cX2_doseHeldBack 2 (some .int) ∈ T0 := T0_mem (i := 474) (by decide +kernel) (by decide +kernel)
theorem kM_RX2_60 : Cond.methodLink RX2 60 yX2_doseHeldBack ∈ T0 := T0_mem (i := 471) (by decide +kernel) (by decide +kernel)
theorem hd_X2_doseHeldBack : yX2_doseHeldBack.cls ≠ "java/lang/invoke/MethodHandle" ∧ yX2_doseHeldBack.cls ≠ "java/lang/invoke/VarHandle" ∧ (parseMethodDescriptor yX2_doseHeldBack.desc).map (fun d => d.parameters.length) = some 1 := by decide +kernel
theorem kO_X2_doseHeldBack : Cond.instanceMethod yX2_doseHeldBack ∈ T0 := T0_mem (i := 473) (by decide +kernel) (by decide +kernel)
theorem kV_X2_doseHeldBack : Cond.selects RX2 yX2_doseHeldBack yX2_doseHeldBack ∈ T0 := T0_mem (i := 4) (by decide +kernel) (by decide +kernel)
theorem kF_RX2_63 : Cond.fieldLinkNest RX2 63 RX3 (TX3 6).2.1 (TX3 6).2.2.1 "StitchBanner" ∈ T0 := T0_mem (i := 256) (by decide +kernel) (by decide +kernel)
theorem kF_RX2_68 : Cond.fieldLinkNest RX2 68 RX3 (TX3 7).2.1 (TX3 7).2.2.1 "StitchBanner" ∈ T0 := T0_mem (i := 259) (by decide +kernel) (by decide +kernel)
theorem kF_RX2_29 : Cond.fieldLink RX2 29 RX2 (TX2 5).2.1 (TX2 5).2.2.1 ∈ T0 := T0_mem (i := 70) (by decide +kernel) (by decide +kernel)
theorem kF_RX2_32 : Cond.fieldLink RX2 32 RX2 (TX2 6).2.1 (TX2 6).2.2.1 ∈ T0 := T0_mem (i := 72) (by decide +kernel) (by decide +kernel)
theorem kF_RX2_40 : Cond.fieldLink RX2 40 RX2 (TX2 8).2.1 (TX2 8).2.2.1 ∈ T0 := T0_mem (i := 75) (by decide +kernel) (by decide +kernel)
theorem kF_RX2_72 : Cond.fieldLinkNest RX2 72 RX3 (TX3 2).2.1 (TX3 2).2.2.1 "StitchBanner" ∈ T0 := T0_mem (i := 248) (by decide +kernel) (by decide +kernel)
theorem kF_RX2_75 : Cond.fieldLinkNest RX2 75 RX3 (TX3 1).2.1 (TX3 1).2.2.1 "StitchBanner" ∈ T0 := T0_mem (i := 245) (by decide +kernel) (by decide +kernel)
theorem kF_RX2_43 : Cond.fieldLink RX2 43 RX2 (TX2 9).2.1 (TX2 9).2.2.1 ∈ T0 := T0_mem (i := 77) (by decide +kernel) (by decide +kernel)
set_option maxHeartbeats 4000000 in
set_option maxRecDepth 100000 in
theorem met_X2_isPrinting (l : Launch) (a0 : Nat) : MI l yX2_isPrinting cX2_isPrinting 1 (some .boolean) 0 0 0 0 [.ref a0] (wX2_isPrinting a0) := by
  refine MI.of (by decide) (Nat.le_of_ble_eq_true rfl) ?_
  intro p e s m below meth c D cs lo S Q ls B hr hlk hin
  intro h hl hw
  replace hl : lv_has ls 1 [(0, .ref a0)] := hl
  refine lv_aload_n B.1.1 B.1.2.1 dX2_isPrinting_0 rfl (lv_at hl 0 rfl) ?_
  obtain ⟨hok, hw⟩ := hw
  refine q_getR B h (ci := 2) (j := 7) (code := 71) rfl inT_2 (by decide) kF_RX2_36 rfl rfl rfl (by decide) dX2_isPrinting_1 hok.1 hok.2 ?_
  obtain ⟨o1, hoo1⟩ : ∃ z, z = gR S 71 a0 := ⟨_, rfl⟩
  rw [← hoo1]
  replace hw := hw o1 hoo1
  refine q_ifnull (tgt := 11) B.1.1 B.1.2.1 dX2_isPrinting_4 (by decide) (fun hn => ?_) (fun q1 hn => ?_)
  · replace hw := hw.1 hn
    subst hn
    replace hl : lv_has ls 1 [(0, .ref a0)] := hl
    refine lv_iconst (v := (0 : Int32)) B.1.1 B.1.2.1 dX2_isPrinting_11 (by decide) ?_
    exact q_zret B hr hlk h (by decide) hw dX2_isPrinting_12 (Nat.le_of_ble_eq_true rfl) (Nat.le_of_ble_eq_true rfl)
  · replace hw := hw.2 q1 hn
    subst hn
    replace hl : lv_has ls 1 [(0, .ref a0)] := hl
    refine lv_iconst (v := (1 : Int32)) B.1.1 B.1.2.1 dX2_isPrinting_7 (by decide) ?_
    refine lv_goto (tgt := 12) B.1.1 B.1.2.1 dX2_isPrinting_8 (by decide) ?_
    exact q_zret B hr hlk h (by decide) hw dX2_isPrinting_12 (Nat.le_of_ble_eq_true rfl) (Nat.le_of_ble_eq_true rfl)
set_option maxHeartbeats 4000000 in
set_option maxRecDepth 100000 in
theorem met_X2_correctByGain (l : Launch) (a0 : Nat) : MI l yX2_correctByGain cX2_correctByGain 1 (some .int) 0 0 0 0 [.ref a0] (wX2_correctByGain a0) := by
  refine MI.of (by decide) (Nat.le_of_ble_eq_true rfl) ?_
  intro p e s m below meth c D cs lo S Q ls B hr hlk hin
  intro h hl hw
  replace hl : lv_has ls 1 [(0, .ref a0)] := hl
  refine lv_aload_n B.1.1 B.1.2.1 dX2_correctByGain_0 rfl (lv_at hl 0 rfl) ?_
  obtain ⟨hok, hw⟩ := hw
  refine q_getI B h (ci := 2) (j := 0) (code := 64) rfl inT_2 (by decide) kF_RX2_9 rfl rfl rfl (by decide) dX2_correctByGain_1 hok.1 hok.2 ?_
  refine lv_if_le (tgt := 26) B.1.1 B.1.2.1 dX2_correctByGain_4 (by decide) (fun hc => ?_) (fun hc => ?_)
  · replace hw := hw.1 hc
    refine lv_aload_n B.1.1 B.1.2.1 dX2_correctByGain_26 rfl (lv_at hl 0 rfl) ?_
    obtain ⟨hok, hw⟩ := hw
    refine q_getI B h (ci := 2) (j := 1) (code := 65) rfl inT_2 (by decide) kF_RX2_15 rfl rfl rfl (by decide) dX2_correctByGain_27 hok.1 hok.2 ?_
    exact q_iret B hr hlk h hw dX2_correctByGain_30 (Nat.le_of_ble_eq_true rfl) (Nat.le_of_ble_eq_true rfl)
  · replace hw := hw.2 hc
    refine lv_aload_n B.1.1 B.1.2.1 dX2_correctByGain_7 rfl (lv_at hl 0 rfl) ?_
    refine lv_sipush (v := (10000 : Int32)) B.1.1 B.1.2.1 dX2_correctByGain_8 (by decide) ?_
    refine lv_aload_n B.1.1 B.1.2.1 dX2_correctByGain_11 rfl (lv_at hl 0 rfl) ?_
    obtain ⟨hok, hw⟩ := hw
    refine q_getI B h (ci := 2) (j := 0) (code := 64) rfl inT_2 (by decide) kF_RX2_9 rfl rfl rfl (by decide) dX2_correctByGain_12 hok.1 hok.2 ?_
    refine lv_iadd B.1.1 B.1.2.1 dX2_correctByGain_15 ?_
    refine lv_iconst (v := (1 : Int32)) B.1.1 B.1.2.1 dX2_correctByGain_16 (by decide) ?_
    refine lv_isub B.1.1 B.1.2.1 dX2_correctByGain_17 ?_
    refine lv_aload_n B.1.1 B.1.2.1 dX2_correctByGain_18 rfl (lv_at hl 0 rfl) ?_
    obtain ⟨hok, hw⟩ := hw
    refine q_getI B h (ci := 2) (j := 0) (code := 64) rfl inT_2 (by decide) kF_RX2_9 rfl rfl rfl (by decide) dX2_correctByGain_19 hok.1 hok.2 ?_
    obtain ⟨hne, hw⟩ := hw
    refine lv_idiv B.1.1 B.1.2.1 dX2_correctByGain_22 hne ?_
    obtain ⟨hok, hw⟩ := hw
    refine q_putI B h (ci := 2) (j := 1) (code := 65) (v := ((((10000 : Int32) + (gI S 64 a0)) - (1 : Int32)) / (gI S 64 a0))) rfl inT_2 tyX2 tyX2_ok nmX2 (by decide) kF_RX2_15 rfl rfl rfl rfl (by decide) (by first | rfl | decide) (by first | rfl | decide) dX2_correctByGain_23 hok.1 hok.2 (fun H locs h9 => ?_)
    obtain ⟨S1, hS1, hh⟩ : ∃ z, z = sI S 65 a0 ((((10000 : Int32) + (gI S 64 a0)) - (1 : Int32)) / (gI S 64 a0)) ∧ Hx D cs lo s z H locs := ⟨_, rfl, h9⟩
    clear h9
    replace h := hh
    clear hh
    replace hw := hw S1 hS1
    refine lv_aload_n B.1.1 B.1.2.1 dX2_correctByGain_26 rfl (lv_at hl 0 rfl) ?_
    obtain ⟨hok, hw⟩ := hw
    refine q_getI B h (ci := 2) (j := 1) (code := 65) rfl inT_2 (by decide) kF_RX2_15 rfl rfl rfl (by decide) dX2_correctByGain_27 hok.1 hok.2 ?_
    exact q_iret B hr hlk h hw dX2_correctByGain_30 (Nat.le_of_ble_eq_true rfl) (Nat.le_of_ble_eq_true rfl)
set_option maxHeartbeats 4000000 in
set_option maxRecDepth 100000 in
theorem met_X2_blockNozzle (l : Launch) (a0 : Nat) (x1 : Int32) : MV l yX2_blockNozzle cX2_blockNozzle 2 none 0 0 0 0 [.ref a0, .int x1] (wX2_blockNozzle a0 x1) := by
  refine MV.of (by decide) (Nat.le_of_ble_eq_true rfl) ?_
  intro p e s m below meth c D cs lo S Q ls B hr hlk hin
  intro h hl hw
  replace hl : lv_has ls 2 [(0, .ref a0), (1, .int x1)] := hl
  refine lv_iload_n B.1.1 B.1.2.1 dX2_blockNozzle_0 rfl (lv_at hl 1 rfl) ?_
  refine lv_if_lt (tgt := 20) B.1.1 B.1.2.1 dX2_blockNozzle_1 (by decide) (fun hc => ?_) (fun hc => ?_)
  · replace hw := hw.1 hc
    exact q_vret B hr hlk h hw dX2_blockNozzle_20 (Nat.le_of_ble_eq_true rfl) (Nat.le_of_ble_eq_true rfl)
  · replace hw := hw.2 hc
    refine lv_iload_n B.1.1 B.1.2.1 dX2_blockNozzle_4 rfl (lv_at hl 1 rfl) ?_
    refine lv_aload_n B.1.1 B.1.2.1 dX2_blockNozzle_5 rfl (lv_at hl 0 rfl) ?_
    obtain ⟨hok, hw⟩ := hw
    refine q_getR B h (ci := 2) (j := 2) (code := 66) rfl inT_2 (by decide) kF_RX2_18 rfl rfl rfl (by decide) dX2_blockNozzle_6 hok.1 hok.2 ?_
    obtain ⟨o1, hoo1⟩ : ∃ z, z = gR S 66 a0 := ⟨_, rfl⟩
    rw [← hoo1]
    replace hw := hw o1 hoo1
    obtain ⟨q1, hn, hw⟩ := hw
    subst hn
    replace hl : lv_has ls 2 [(0, .ref a0), (1, .int x1)] := hl
    obtain ⟨hok, hw⟩ := hw
    refine q_alen B h dX2_blockNozzle_9 hok.1 (by rw [hok.2]; decide) (by rw [hok.2]; decide) ?_
    refine lv_icmp_ge (tgt := 20) B.1.1 B.1.2.1 dX2_blockNozzle_10 (by decide) (fun hc => ?_) (fun hc => ?_)
    · replace hw := hw.1 hc
      exact q_vret B hr hlk h hw dX2_blockNozzle_20 (Nat.le_of_ble_eq_true rfl) (Nat.le_of_ble_eq_true rfl)
    · replace hw := hw.2 hc
      refine lv_aload_n B.1.1 B.1.2.1 dX2_blockNozzle_13 rfl (lv_at hl 0 rfl) ?_
      obtain ⟨hok, hw⟩ := hw
      refine q_getR B h (ci := 2) (j := 2) (code := 66) rfl inT_2 (by decide) kF_RX2_18 rfl rfl rfl (by decide) dX2_blockNozzle_14 hok.1 hok.2 ?_
      obtain ⟨o2, hoo2⟩ : ∃ z, z = gR S 66 a0 := ⟨_, rfl⟩
      rw [← hoo2]
      replace hw := hw o2 hoo2
      refine lv_iload_n B.1.1 B.1.2.1 dX2_blockNozzle_17 rfl (lv_at hl 1 rfl) ?_
      refine lv_iconst (v := (1 : Int32)) B.1.1 B.1.2.1 dX2_blockNozzle_18 (by decide) ?_
      obtain ⟨q2, hn, hw⟩ := hw
      subst hn
      replace hl : lv_has ls 2 [(0, .ref a0), (1, .int x1)] := hl
      obtain ⟨hok, hin9, hw⟩ := hw
      refine q_zast B h (x := (1 : Int32)) (by first | rfl | decide) dX2_blockNozzle_19 hok.1 hok.2 hin9 (fun H locs h9 => ?_)
      obtain ⟨S1, hS1, hh⟩ : ∃ z, z = sA S q2 x1.toNatClampNeg (1 : Int32) ∧ Hx D cs lo s z H locs := ⟨_, rfl, h9⟩
      clear h9
      replace h := hh
      clear hh
      replace hw := hw S1 hS1
      exact q_vret B hr hlk h hw dX2_blockNozzle_20 (Nat.le_of_ble_eq_true rfl) (Nat.le_of_ble_eq_true rfl)
set_option maxHeartbeats 4000000 in
set_option maxRecDepth 100000 in
theorem met_X2_freeNozzles (l : Launch) (a0 : Nat) : MV l yX2_freeNozzles cX2_freeNozzles 2 none 0 0 0 0 [.ref a0] (wX2_freeNozzles a0) := by
  refine MV.of (by decide) (Nat.le_of_ble_eq_true rfl) ?_
  intro p e s m below meth c D cs lo S Q ls B hr hlk hin
  have L2 : ∀ (c0 : Nat) (K : Int32 → HS → Prop) (n : Nat) (m1 : Int32) (S : HS) (H : Heap) (locs : List Loc) (ls : Array Slot), Hx D cs lo s S H locs → lv_has ls 2 [(0, .ref c0), (1, .int m1)] → wX2_freeNozzles_L2 c0 n m1 S K → (∀ (m1 : Int32) (S : HS) (H : Heap) (locs : List Loc) (ls : Array Slot), Hx D cs lo s S H locs → lv_has ls 2 [(0, .ref c0), (1, .int m1)] → K m1 S → W p l e ({ frames := 0, cells := 0, slots := 0, locals := 0 } : Room) s m [.ref a0].toArray below meth c H locs 0 0 (MQ below (va_Qv Q (fun S' t => hp D cs lo S' t.heap) (fun q => lo ≤ q)) [.ref a0].toArray s 0 0 (fun q => lo ≤ q)) (F0 m 24 ls [])) → W p l e ({ frames := 0, cells := 0, slots := 0, locals := 0 } : Room) s m [.ref a0].toArray below meth c H locs 0 0 (MQ below (va_Qv Q (fun S' t => hp D cs lo S' t.heap) (fun q => lo ≤ q)) [.ref a0].toArray s 0 0 (fun q => lo ≤ q)) (F0 m 2 ls []) := by
    intro c0 K n
    induction n with
    | zero => intro m1 S H locs ls h hl hw hk; exact False.elim hw
    | succ n ih =>
      intro m1 S H locs ls h hl hw hk
      refine lv_iload_n B.1.1 B.1.2.1 dX2_freeNozzles_2 rfl (lv_at hl 1 rfl) ?_
      refine lv_aload_n B.1.1 B.1.2.1 dX2_freeNozzles_3 rfl (lv_at hl 0 rfl) ?_
      obtain ⟨hok, hw⟩ := hw
      refine q_getR B h (ci := 2) (j := 2) (code := 66) rfl inT_2 (by decide) kF_RX2_18 rfl rfl rfl (by decide) dX2_freeNozzles_4 hok.1 hok.2 ?_
      obtain ⟨o1, hoo1⟩ : ∃ z, z = gR S 66 c0 := ⟨_, rfl⟩
      rw [← hoo1]
      replace hw := hw o1 hoo1
      obtain ⟨q1, hn, hw⟩ := hw
      subst hn
      replace hl : lv_has ls 2 [(0, .ref c0), (1, .int m1)] := hl
      obtain ⟨hok, hw⟩ := hw
      refine q_alen B h dX2_freeNozzles_7 hok.1 (by rw [hok.2]; decide) (by rw [hok.2]; decide) ?_
      refine lv_icmp_ge (tgt := 24) B.1.1 B.1.2.1 dX2_freeNozzles_8 (by decide) (fun hc => ?_) (fun hc => ?_)
      · replace hw := hw.1 hc
        exact hk m1 _ _ _ ls h (lv_sub hl [0, 1] rfl) hw
      · replace hw := hw.2 hc
        refine lv_aload_n B.1.1 B.1.2.1 dX2_freeNozzles_11 rfl (lv_at hl 0 rfl) ?_
        obtain ⟨hok, hw⟩ := hw
        refine q_getR B h (ci := 2) (j := 2) (code := 66) rfl inT_2 (by decide) kF_RX2_18 rfl rfl rfl (by decide) dX2_freeNozzles_12 hok.1 hok.2 ?_
        obtain ⟨o2, hoo2⟩ : ∃ z, z = gR S 66 c0 := ⟨_, rfl⟩
        rw [← hoo2]
        replace hw := hw o2 hoo2
        refine lv_iload_n B.1.1 B.1.2.1 dX2_freeNozzles_15 rfl (lv_at hl 1 rfl) ?_
        refine lv_iconst (v := (0 : Int32)) B.1.1 B.1.2.1 dX2_freeNozzles_16 (by decide) ?_
        obtain ⟨q2, hn, hw⟩ := hw
        subst hn
        replace hl : lv_has ls 2 [(0, .ref c0), (1, .int m1)] := hl
        obtain ⟨hok, hin9, hw⟩ := hw
        refine q_zast B h (x := (0 : Int32)) (by first | rfl | decide) dX2_freeNozzles_17 hok.1 hok.2 hin9 (fun H locs h9 => ?_)
        obtain ⟨S1, hS1, hh⟩ : ∃ z, z = sA S q2 m1.toNatClampNeg (0 : Int32) ∧ Hx D cs lo s z H locs := ⟨_, rfl, h9⟩
        clear h9
        replace h := hh
        clear hh
        replace hw := hw S1 hS1
        refine lv_iinc (i := 1) (v := (m1 + (1 : Int32))) (lv' := [(1, .int (m1 + (1 : Int32))), (0, .ref c0)]) B.1.1 B.1.2.1 dX2_freeNozzles_18 hl (k := 1) rfl rfl (by decide) rfl (fun ls hl9 => ?_)
        replace hl := hl9
        clear hl9
        refine lv_goto (tgt := 2) B.1.1 B.1.2.1 dX2_freeNozzles_21 (by decide) ?_
        exact ih (m1 + (1 : Int32)) _ _ _ ls h (lv_sub hl [1, 0] rfl) hw hk
  intro h hl hw
  replace hl : lv_has ls 2 [(0, .ref a0)] := hl
  refine lv_iconst (v := (0 : Int32)) B.1.1 B.1.2.1 dX2_freeNozzles_0 (by decide) ?_
  refine lv_istore_n (i := 1) (lv' := [(1, .int (0 : Int32)), (0, .ref a0)]) B.1.1 B.1.2.1 dX2_freeNozzles_1 rfl hl (by decide) rfl (fun ls hl9 => ?_)
  replace hl := hl9
  clear hl9
  obtain ⟨n1, hw⟩ := hw
  refine L2 a0 _ n1 (0 : Int32) _ _ _ ls h (lv_sub hl [1, 0] rfl) hw (fun u1 S2 H locs ls h9 hl9 hw9 => ?_)
  replace hw := hw9
  clear hw9
  replace h := h9
  clear h9
  replace hl := hl9
  clear hl9
  exact q_vret B hr hlk h hw dX2_freeNozzles_24 (Nat.le_of_ble_eq_true rfl) (Nat.le_of_ble_eq_true rfl)
set_option maxHeartbeats 4000000 in
set_option maxRecDepth 100000 in
theorem met_X2_blockedCount (l : Launch) (a0 : Nat) : MI l yX2_blockedCount cX2_blockedCount 3 (some .int) 0 0 0 0 [.ref a0] (wX2_blockedCount a0) := by
  refine MI.of (by decide) (Nat.le_of_ble_eq_true rfl) ?_
  intro p e s m below meth c D cs lo S Q ls B hr hlk hin
  have L4 : ∀ (c0 : Nat) (K : Int32 → Int32 → HS → Prop) (n : Nat) (m1 : Int32) (m2 : Int32) (S : HS) (H : Heap) (locs : List Loc) (ls : Array Slot), Hx D cs lo s S H locs → lv_has ls 3 [(0, .ref c0), (1, .int m1), (2, .int m2)] → wX2_blockedCount_L4 c0 n m1 m2 S K → (∀ (m1 : Int32) (m2 : Int32) (S : HS) (H : Heap) (locs : List Loc) (ls : Array Slot), Hx D cs lo s S H locs → lv_has ls 3 [(0, .ref c0), (1, .int m1), (2, .int m2)] → K m1 m2 S → W p l e ({ frames := 0, cells := 0, slots := 0, locals := 0 } : Room) s m [.ref a0].toArray below meth c H locs 0 0 (MQ below (va_Qi Q (fun S' t => hp D cs lo S' t.heap) (fun q => lo ≤ q)) [.ref a0].toArray s 0 0 (fun q => lo ≤ q)) (F0 m 31 ls [])) → W p l e ({ frames := 0, cells := 0, slots := 0, locals := 0 } : Room) s m [.ref a0].toArray below meth c H locs 0 0 (MQ below (va_Qi Q (fun S' t => hp D cs lo S' t.heap) (fun q => lo ≤ q)) [.ref a0].toArray s 0 0 (fun q => lo ≤ q)) (F0 m 4 ls []) := by
    intro c0 K n
    induction n with
    | zero => intro m1 m2 S H locs ls h hl hw hk; exact False.elim hw
    | succ n ih =>
      intro m1 m2 S H locs ls h hl hw hk
      refine lv_iload_n B.1.1 B.1.2.1 dX2_blockedCount_4 rfl (lv_at hl 2 rfl) ?_
      refine lv_aload_n B.1.1 B.1.2.1 dX2_blockedCount_5 rfl (lv_at hl 0 rfl) ?_
      obtain ⟨hok, hw⟩ := hw
      refine q_getR B h (ci := 2) (j := 2) (code := 66) rfl inT_2 (by decide) kF_RX2_18 rfl rfl rfl (by decide) dX2_blockedCount_6 hok.1 hok.2 ?_
      obtain ⟨o1, hoo1⟩ : ∃ z, z = gR S 66 c0 := ⟨_, rfl⟩
      rw [← hoo1]
      replace hw := hw o1 hoo1
      obtain ⟨q1, hn, hw⟩ := hw
      subst hn
      replace hl : lv_has ls 3 [(0, .ref c0), (1, .int m1), (2, .int m2)] := hl
      obtain ⟨hok, hw⟩ := hw
      refine q_alen B h dX2_blockedCount_9 hok.1 (by rw [hok.2]; decide) (by rw [hok.2]; decide) ?_
      refine lv_icmp_ge (tgt := 31) B.1.1 B.1.2.1 dX2_blockedCount_10 (by decide) (fun hc => ?_) (fun hc => ?_)
      · replace hw := hw.1 hc
        exact hk m1 m2 _ _ _ ls h (lv_sub hl [0, 1, 2] rfl) hw
      · replace hw := hw.2 hc
        refine lv_aload_n B.1.1 B.1.2.1 dX2_blockedCount_13 rfl (lv_at hl 0 rfl) ?_
        obtain ⟨hok, hw⟩ := hw
        refine q_getR B h (ci := 2) (j := 2) (code := 66) rfl inT_2 (by decide) kF_RX2_18 rfl rfl rfl (by decide) dX2_blockedCount_14 hok.1 hok.2 ?_
        obtain ⟨o2, hoo2⟩ : ∃ z, z = gR S 66 c0 := ⟨_, rfl⟩
        rw [← hoo2]
        replace hw := hw o2 hoo2
        refine lv_iload_n B.1.1 B.1.2.1 dX2_blockedCount_17 rfl (lv_at hl 2 rfl) ?_
        obtain ⟨q2, hn, hw⟩ := hw
        subst hn
        replace hl : lv_has ls 3 [(0, .ref c0), (1, .int m1), (2, .int m2)] := hl
        obtain ⟨hok, hin9, hw⟩ := hw
        refine q_zald B h dX2_blockedCount_18 hok.1 hok.2 hin9 ?_
        refine lv_if_eq (tgt := 25) B.1.1 B.1.2.1 dX2_blockedCount_19 (by decide) (fun hc => ?_) (fun hc => ?_)
        · replace hw := hw.1 hc
          refine lv_iinc (i := 2) (v := (m2 + (1 : Int32))) (lv' := [(2, .int (m2 + (1 : Int32))), (0, .ref c0), (1, .int m1)]) B.1.1 B.1.2.1 dX2_blockedCount_25 hl (k := 2) rfl rfl (by decide) rfl (fun ls hl9 => ?_)
          replace hl := hl9
          clear hl9
          refine lv_goto (tgt := 4) B.1.1 B.1.2.1 dX2_blockedCount_28 (by decide) ?_
          exact ih m1 (m2 + (1 : Int32)) _ _ _ ls h (lv_sub hl [1, 2, 0] rfl) hw hk
        · replace hw := hw.2 hc
          refine lv_iinc (i := 1) (v := (m1 + (1 : Int32))) (lv' := [(1, .int (m1 + (1 : Int32))), (0, .ref c0), (2, .int m2)]) B.1.1 B.1.2.1 dX2_blockedCount_22 hl (k := 1) rfl rfl (by decide) rfl (fun ls hl9 => ?_)
          replace hl := hl9
          clear hl9
          refine lv_iinc (i := 2) (v := (m2 + (1 : Int32))) (lv' := [(2, .int (m2 + (1 : Int32))), (1, .int (m1 + (1 : Int32))), (0, .ref c0)]) B.1.1 B.1.2.1 dX2_blockedCount_25 hl (k := 2) rfl rfl (by decide) rfl (fun ls hl9 => ?_)
          replace hl := hl9
          clear hl9
          refine lv_goto (tgt := 4) B.1.1 B.1.2.1 dX2_blockedCount_28 (by decide) ?_
          exact ih (m1 + (1 : Int32)) (m2 + (1 : Int32)) _ _ _ ls h (lv_sub hl [2, 1, 0] rfl) hw hk
  intro h hl hw
  replace hl : lv_has ls 3 [(0, .ref a0)] := hl
  refine lv_iconst (v := (0 : Int32)) B.1.1 B.1.2.1 dX2_blockedCount_0 (by decide) ?_
  refine lv_istore_n (i := 1) (lv' := [(1, .int (0 : Int32)), (0, .ref a0)]) B.1.1 B.1.2.1 dX2_blockedCount_1 rfl hl (by decide) rfl (fun ls hl9 => ?_)
  replace hl := hl9
  clear hl9
  refine lv_iconst (v := (0 : Int32)) B.1.1 B.1.2.1 dX2_blockedCount_2 (by decide) ?_
  refine lv_istore_n (i := 2) (lv' := [(2, .int (0 : Int32)), (1, .int (0 : Int32)), (0, .ref a0)]) B.1.1 B.1.2.1 dX2_blockedCount_3 rfl hl (by decide) rfl (fun ls hl9 => ?_)
  replace hl := hl9
  clear hl9
  obtain ⟨n1, hw⟩ := hw
  refine L4 a0 _ n1 (0 : Int32) (0 : Int32) _ _ _ ls h (lv_sub hl [2, 1, 0] rfl) hw (fun u1 u2 S1 H locs ls h9 hl9 hw9 => ?_)
  replace hw := hw9
  clear hw9
  replace h := h9
  clear h9
  replace hl := hl9
  clear hl9
  refine lv_iload_n B.1.1 B.1.2.1 dX2_blockedCount_31 rfl (lv_at hl 1 rfl) ?_
  exact q_iret B hr hlk h hw dX2_blockedCount_32 (Nat.le_of_ble_eq_true rfl) (Nat.le_of_ble_eq_true rfl)
set_option maxHeartbeats 4000000 in
set_option maxRecDepth 100000 in
theorem met_X2_isBlocked (l : Launch) (a0 : Nat) (x1 : Int32) : MI l yX2_isBlocked cX2_isBlocked 2 (some .boolean) 0 0 0 0 [.ref a0, .int x1] (wX2_isBlocked a0 x1) := by
  refine MI.of (by decide) (Nat.le_of_ble_eq_true rfl) ?_
  intro p e s m below meth c D cs lo S Q ls B hr hlk hin
  intro h hl hw
  replace hl : lv_has ls 2 [(0, .ref a0), (1, .int x1)] := hl
  refine lv_iload_n B.1.1 B.1.2.1 dX2_isBlocked_0 rfl (lv_at hl 1 rfl) ?_
  refine lv_if_lt (tgt := 26) B.1.1 B.1.2.1 dX2_isBlocked_1 (by decide) (fun hc => ?_) (fun hc => ?_)
  · replace hw := hw.1 hc
    refine lv_iconst (v := (0 : Int32)) B.1.1 B.1.2.1 dX2_isBlocked_26 (by decide) ?_
    exact q_zret B hr hlk h (by decide) hw dX2_isBlocked_27 (Nat.le_of_ble_eq_true rfl) (Nat.le_of_ble_eq_true rfl)
  · replace hw := hw.2 hc
    refine lv_iload_n B.1.1 B.1.2.1 dX2_isBlocked_4 rfl (lv_at hl 1 rfl) ?_
    refine lv_aload_n B.1.1 B.1.2.1 dX2_isBlocked_5 rfl (lv_at hl 0 rfl) ?_
    obtain ⟨hok, hw⟩ := hw
    refine q_getR B h (ci := 2) (j := 2) (code := 66) rfl inT_2 (by decide) kF_RX2_18 rfl rfl rfl (by decide) dX2_isBlocked_6 hok.1 hok.2 ?_
    obtain ⟨o1, hoo1⟩ : ∃ z, z = gR S 66 a0 := ⟨_, rfl⟩
    rw [← hoo1]
    replace hw := hw o1 hoo1
    obtain ⟨q1, hn, hw⟩ := hw
    subst hn
    replace hl : lv_has ls 2 [(0, .ref a0), (1, .int x1)] := hl
    obtain ⟨hok, hw⟩ := hw
    refine q_alen B h dX2_isBlocked_9 hok.1 (by rw [hok.2]; decide) (by rw [hok.2]; decide) ?_
    refine lv_icmp_ge (tgt := 26) B.1.1 B.1.2.1 dX2_isBlocked_10 (by decide) (fun hc => ?_) (fun hc => ?_)
    · replace hw := hw.1 hc
      refine lv_iconst (v := (0 : Int32)) B.1.1 B.1.2.1 dX2_isBlocked_26 (by decide) ?_
      exact q_zret B hr hlk h (by decide) hw dX2_isBlocked_27 (Nat.le_of_ble_eq_true rfl) (Nat.le_of_ble_eq_true rfl)
    · replace hw := hw.2 hc
      refine lv_aload_n B.1.1 B.1.2.1 dX2_isBlocked_13 rfl (lv_at hl 0 rfl) ?_
      obtain ⟨hok, hw⟩ := hw
      refine q_getR B h (ci := 2) (j := 2) (code := 66) rfl inT_2 (by decide) kF_RX2_18 rfl rfl rfl (by decide) dX2_isBlocked_14 hok.1 hok.2 ?_
      obtain ⟨o2, hoo2⟩ : ∃ z, z = gR S 66 a0 := ⟨_, rfl⟩
      rw [← hoo2]
      replace hw := hw o2 hoo2
      refine lv_iload_n B.1.1 B.1.2.1 dX2_isBlocked_17 rfl (lv_at hl 1 rfl) ?_
      obtain ⟨q2, hn, hw⟩ := hw
      subst hn
      replace hl : lv_has ls 2 [(0, .ref a0), (1, .int x1)] := hl
      obtain ⟨hok, hin9, hw⟩ := hw
      refine q_zald B h dX2_isBlocked_18 hok.1 hok.2 hin9 ?_
      refine lv_if_eq (tgt := 26) B.1.1 B.1.2.1 dX2_isBlocked_19 (by decide) (fun hc => ?_) (fun hc => ?_)
      · replace hw := hw.1 hc
        refine lv_iconst (v := (0 : Int32)) B.1.1 B.1.2.1 dX2_isBlocked_26 (by decide) ?_
        exact q_zret B hr hlk h (by decide) hw dX2_isBlocked_27 (Nat.le_of_ble_eq_true rfl) (Nat.le_of_ble_eq_true rfl)
      · replace hw := hw.2 hc
        refine lv_iconst (v := (1 : Int32)) B.1.1 B.1.2.1 dX2_isBlocked_22 (by decide) ?_
        refine lv_goto (tgt := 27) B.1.1 B.1.2.1 dX2_isBlocked_23 (by decide) ?_
        exact q_zret B hr hlk h (by decide) hw dX2_isBlocked_27 (Nat.le_of_ble_eq_true rfl) (Nat.le_of_ble_eq_true rfl)
set_option maxHeartbeats 4000000 in
set_option maxRecDepth 100000 in
theorem met_X2_setDose (l : Launch) (a0 : Nat) (x1 : Int32) (x2 : Int32) : MV l yX2_setDose cX2_setDose 3 none 1 15 0 0 [.ref a0, .int x1, .int x2] (wX2_setDose a0 x1 x2) := by
  refine MV.of (by decide) (Nat.le_of_ble_eq_true rfl) ?_
  intro p e s m below meth c D cs lo S Q ls B hr hlk hin
  intro h hl hw
  replace hl : lv_has ls 3 [(0, .ref a0), (1, .int x1), (2, .int x2)] := hl
  refine lv_iload_n B.1.1 B.1.2.1 dX2_setDose_0 rfl (lv_at hl 1 rfl) ?_
  refine lv_if_lt (tgt := 33) B.1.1 B.1.2.1 dX2_setDose_1 (by decide) (fun hc => ?_) (fun hc => ?_)
  · replace hw := hw.1 hc
    exact q_vret B hr hlk h hw dX2_setDose_33 (Nat.le_of_ble_eq_true rfl) (Nat.le_of_ble_eq_true rfl)
  · replace hw := hw.2 hc
    refine lv_iload_n B.1.1 B.1.2.1 dX2_setDose_4 rfl (lv_at hl 1 rfl) ?_
    refine lv_aload_n B.1.1 B.1.2.1 dX2_setDose_5 rfl (lv_at hl 0 rfl) ?_
    obtain ⟨hok, hw⟩ := hw
    refine q_getR B h (ci := 2) (j := 3) (code := 67) rfl inT_2 (by decide) kF_RX2_22 rfl rfl rfl (by decide) dX2_setDose_6 hok.1 hok.2 ?_
    obtain ⟨o1, hoo1⟩ : ∃ z, z = gR S 67 a0 := ⟨_, rfl⟩
    rw [← hoo1]
    replace hw := hw o1 hoo1
    obtain ⟨q1, hn, hw⟩ := hw
    subst hn
    replace hl : lv_has ls 3 [(0, .ref a0), (1, .int x1), (2, .int x2)] := hl
    obtain ⟨hok, hw⟩ := hw
    refine q_alen B h dX2_setDose_9 hok.1 (by rw [hok.2]; decide) (by rw [hok.2]; decide) ?_
    refine lv_icmp_ge (tgt := 33) B.1.1 B.1.2.1 dX2_setDose_10 (by decide) (fun hc => ?_) (fun hc => ?_)
    · replace hw := hw.1 hc
      exact q_vret B hr hlk h hw dX2_setDose_33 (Nat.le_of_ble_eq_true rfl) (Nat.le_of_ble_eq_true rfl)
    · replace hw := hw.2 hc
      refine lv_aload_n B.1.1 B.1.2.1 dX2_setDose_13 rfl (lv_at hl 0 rfl) ?_
      obtain ⟨hok, hw⟩ := hw
      refine q_getR B h (ci := 2) (j := 3) (code := 67) rfl inT_2 (by decide) kF_RX2_22 rfl rfl rfl (by decide) dX2_setDose_14 hok.1 hok.2 ?_
      obtain ⟨o2, hoo2⟩ : ∃ z, z = gR S 67 a0 := ⟨_, rfl⟩
      rw [← hoo2]
      replace hw := hw o2 hoo2
      refine lv_iload_n B.1.1 B.1.2.1 dX2_setDose_17 rfl (lv_at hl 1 rfl) ?_
      refine lv_iload_n B.1.1 B.1.2.1 dX2_setDose_18 rfl (lv_at hl 2 rfl) ?_
      refine lv_aload_n B.1.1 B.1.2.1 dX2_setDose_19 rfl (lv_at hl 0 rfl) ?_
      obtain ⟨hok, hw⟩ := hw
      refine q_getI B h (ci := 2) (j := 1) (code := 65) rfl inT_2 (by decide) kF_RX2_15 rfl rfl rfl (by decide) dX2_setDose_20 hok.1 hok.2 ?_
      refine lv_imul B.1.1 B.1.2.1 dX2_setDose_23 ?_
      refine lv_bipush (v := (100 : Int32)) B.1.1 B.1.2.1 dX2_setDose_24 (by decide) ?_
      refine lv_idiv B.1.1 B.1.2.1 dX2_setDose_26 (by decide) ?_
      refine lv_bipush (v := (15 : Int32)) B.1.1 B.1.2.1 dX2_setDose_27 (by decide) ?_
      refine q_min B kM_RX2_46 kS_math_min kI_java_lang_Math kC_math_min hl.1 (Nat.le_of_ble_eq_true rfl) (by simp [rf_cat, cat_i, cat_r, cat_n, cat_j, cat_f, cat_d]) (Nat.le_of_ble_eq_true rfl) (Nat.le_of_ble_eq_true rfl) dX2_setDose_29 ?_
      obtain ⟨q2, hn, hw⟩ := hw
      subst hn
      replace hl : lv_has ls 3 [(0, .ref a0), (1, .int x1), (2, .int x2)] := hl
      obtain ⟨hok, hin9, hw⟩ := hw
      refine q_iast B h dX2_setDose_32 hok.1 hok.2 hin9 (fun H locs h9 => ?_)
      obtain ⟨S1, hS1, hh⟩ : ∃ z, z = sA S q2 x1.toNatClampNeg (if (15 : Int32) < ((x2 * (gI S 65 a0)) / (100 : Int32)) then (15 : Int32) else ((x2 * (gI S 65 a0)) / (100 : Int32))) ∧ Hx D cs lo s z H locs := ⟨_, rfl, h9⟩
      clear h9
      replace h := hh
      clear hh
      replace hw := hw S1 hS1
      exact q_vret B hr hlk h hw dX2_setDose_33 (Nat.le_of_ble_eq_true rfl) (Nat.le_of_ble_eq_true rfl)
set_option maxHeartbeats 4000000 in
set_option maxRecDepth 100000 in
theorem met_X2_doseOf (l : Launch) (a0 : Nat) (x1 : Int32) : MI l yX2_doseOf cX2_doseOf 2 (some .int) 0 0 0 0 [.ref a0, .int x1] (wX2_doseOf a0 x1) := by
  refine MI.of (by decide) (Nat.le_of_ble_eq_true rfl) ?_
  intro p e s m below meth c D cs lo S Q ls B hr hlk hin
  intro h hl hw
  replace hl : lv_has ls 2 [(0, .ref a0), (1, .int x1)] := hl
  refine lv_iload_n B.1.1 B.1.2.1 dX2_doseOf_0 rfl (lv_at hl 1 rfl) ?_
  refine lv_if_lt (tgt := 22) B.1.1 B.1.2.1 dX2_doseOf_1 (by decide) (fun hc => ?_) (fun hc => ?_)
  · replace hw := hw.1 hc
    refine lv_iconst (v := (0 : Int32)) B.1.1 B.1.2.1 dX2_doseOf_22 (by decide) ?_
    exact q_iret B hr hlk h hw dX2_doseOf_23 (Nat.le_of_ble_eq_true rfl) (Nat.le_of_ble_eq_true rfl)
  · replace hw := hw.2 hc
    refine lv_iload_n B.1.1 B.1.2.1 dX2_doseOf_4 rfl (lv_at hl 1 rfl) ?_
    refine lv_aload_n B.1.1 B.1.2.1 dX2_doseOf_5 rfl (lv_at hl 0 rfl) ?_
    obtain ⟨hok, hw⟩ := hw
    refine q_getR B h (ci := 2) (j := 3) (code := 67) rfl inT_2 (by decide) kF_RX2_22 rfl rfl rfl (by decide) dX2_doseOf_6 hok.1 hok.2 ?_
    obtain ⟨o1, hoo1⟩ : ∃ z, z = gR S 67 a0 := ⟨_, rfl⟩
    rw [← hoo1]
    replace hw := hw o1 hoo1
    obtain ⟨q1, hn, hw⟩ := hw
    subst hn
    replace hl : lv_has ls 2 [(0, .ref a0), (1, .int x1)] := hl
    obtain ⟨hok, hw⟩ := hw
    refine q_alen B h dX2_doseOf_9 hok.1 (by rw [hok.2]; decide) (by rw [hok.2]; decide) ?_
    refine lv_icmp_ge (tgt := 22) B.1.1 B.1.2.1 dX2_doseOf_10 (by decide) (fun hc => ?_) (fun hc => ?_)
    · replace hw := hw.1 hc
      refine lv_iconst (v := (0 : Int32)) B.1.1 B.1.2.1 dX2_doseOf_22 (by decide) ?_
      exact q_iret B hr hlk h hw dX2_doseOf_23 (Nat.le_of_ble_eq_true rfl) (Nat.le_of_ble_eq_true rfl)
    · replace hw := hw.2 hc
      refine lv_aload_n B.1.1 B.1.2.1 dX2_doseOf_13 rfl (lv_at hl 0 rfl) ?_
      obtain ⟨hok, hw⟩ := hw
      refine q_getR B h (ci := 2) (j := 3) (code := 67) rfl inT_2 (by decide) kF_RX2_22 rfl rfl rfl (by decide) dX2_doseOf_14 hok.1 hok.2 ?_
      obtain ⟨o2, hoo2⟩ : ∃ z, z = gR S 67 a0 := ⟨_, rfl⟩
      rw [← hoo2]
      replace hw := hw o2 hoo2
      refine lv_iload_n B.1.1 B.1.2.1 dX2_doseOf_17 rfl (lv_at hl 1 rfl) ?_
      obtain ⟨q2, hn, hw⟩ := hw
      subst hn
      replace hl : lv_has ls 2 [(0, .ref a0), (1, .int x1)] := hl
      obtain ⟨hok, hin9, hw⟩ := hw
      refine q_iald B h dX2_doseOf_18 hok.1 hok.2 hin9 ?_
      refine lv_goto (tgt := 23) B.1.1 B.1.2.1 dX2_doseOf_19 (by decide) ?_
      exact q_iret B hr hlk h hw dX2_doseOf_23 (Nat.le_of_ble_eq_true rfl) (Nat.le_of_ble_eq_true rfl)
set_option maxHeartbeats 4000000 in
set_option maxRecDepth 100000 in
theorem met_X2_doseHeldBack (l : Launch) (a0 : Nat) (x1 : Int32) : MI l yX2_doseHeldBack cX2_doseHeldBack 2 (some .int) 1 21 0 0 [.ref a0, .int x1] (wX2_doseHeldBack a0 x1) := by
  refine MI.of (by decide) (Nat.le_of_ble_eq_true rfl) ?_
  intro p e s m below meth c D cs lo S Q ls B hr hlk hin
  intro h hl hw
  replace hl : lv_has ls 2 [(0, .ref a0), (1, .int x1)] := hl
  refine lv_aload_n B.1.1 B.1.2.1 dX2_doseHeldBack_0 rfl (lv_at hl 0 rfl) ?_
  refine lv_iload_n B.1.1 B.1.2.1 dX2_doseHeldBack_1 rfl (lv_at hl 1 rfl) ?_
  obtain ⟨hok, hw⟩ := hw
  refine q_callIV B h (met_X2_isBlocked l a0 x1) (CB B 1 kC_X2_isBlocked kI_RX2 kM_RX2_52 hd_X2_isBlocked ⟨Nat.le_of_ble_eq_true rfl, Nat.le_of_ble_eq_true rfl⟩) kO_X2_isBlocked kV_X2_isBlocked (ci := 2) rfl (by decide) hok.1 hok.2 (rest := []) rfl rfl hl.1 (Nat.le_of_ble_eq_true rfl) dX2_doseHeldBack_2 ⟨Nat.le_of_ble_eq_true rfl, Nat.le_of_ble_eq_true rfl⟩ hw (fun r1 S1 H locs hw9 h9 => ?_)
  replace hw := hw9
  clear hw9
  replace h := h9
  clear h9
  refine lv_if_eq (tgt := 16) B.1.1 B.1.2.1 dX2_doseHeldBack_5 (by decide) (fun hc => ?_) (fun hc => ?_)
  · replace hw := hw.1 hc
    refine lv_iconst (v := (0 : Int32)) B.1.1 B.1.2.1 dX2_doseHeldBack_16 (by decide) ?_
    exact q_iret B hr hlk h hw dX2_doseHeldBack_17 (Nat.le_of_ble_eq_true rfl) (Nat.le_of_ble_eq_true rfl)
  · replace hw := hw.2 hc
    refine lv_aload_n B.1.1 B.1.2.1 dX2_doseHeldBack_8 rfl (lv_at hl 0 rfl) ?_
    refine lv_iload_n B.1.1 B.1.2.1 dX2_doseHeldBack_9 rfl (lv_at hl 1 rfl) ?_
    obtain ⟨hok, hw⟩ := hw
    refine q_callIV B h (met_X2_doseOf l a0 x1) (CB B 1 kC_X2_doseOf kI_RX2 kM_RX2_56 hd_X2_doseOf ⟨Nat.le_of_ble_eq_true rfl, Nat.le_of_ble_eq_true rfl⟩) kO_X2_doseOf kV_X2_doseOf (ci := 2) rfl (by decide) hok.1 hok.2 (rest := []) rfl rfl hl.1 (Nat.le_of_ble_eq_true rfl) dX2_doseHeldBack_10 ⟨Nat.le_of_ble_eq_true rfl, Nat.le_of_ble_eq_true rfl⟩ hw (fun r2 S2 H locs hw9 h9 => ?_)
    replace hw := hw9
    clear hw9
    replace h := h9
    clear h9
    refine lv_goto (tgt := 17) B.1.1 B.1.2.1 dX2_doseHeldBack_13 (by decide) ?_
    exact q_iret B hr hlk h hw dX2_doseHeldBack_17 (Nat.le_of_ble_eq_true rfl) (Nat.le_of_ble_eq_true rfl)
set_option maxHeartbeats 4000000 in
set_option maxRecDepth 100000 in
theorem met_X2_laidInRow (l : Launch) (a0 : Nat) (x1 : Int32) : MI l yX2_laidInRow cX2_laidInRow 4 (some .int) 2 42 0 0 [.ref a0, .int x1] (wX2_laidInRow a0 x1) := by
  refine MI.of (by decide) (Nat.le_of_ble_eq_true rfl) ?_
  intro p e s m below meth c D cs lo S Q ls B hr hlk hin
  intro h hl hw
  replace hl : lv_has ls 4 [(0, .ref a0), (1, .int x1)] := hl
  refine lv_aload_n B.1.1 B.1.2.1 dX2_laidInRow_0 rfl (lv_at hl 0 rfl) ?_
  refine lv_iload_n B.1.1 B.1.2.1 dX2_laidInRow_1 rfl (lv_at hl 1 rfl) ?_
  obtain ⟨hok, hw⟩ := hw
  refine q_callIV B h (met_X2_isBlocked l a0 x1) (CB B 1 kC_X2_isBlocked kI_RX2 kM_RX2_52 hd_X2_isBlocked ⟨Nat.le_of_ble_eq_true rfl, Nat.le_of_ble_eq_true rfl⟩) kO_X2_isBlocked kV_X2_isBlocked (ci := 2) rfl (by decide) hok.1 hok.2 (rest := []) rfl rfl hl.1 (Nat.le_of_ble_eq_true rfl) dX2_laidInRow_2 ⟨Nat.le_of_ble_eq_true rfl, Nat.le_of_ble_eq_true rfl⟩ hw (fun r1 S1 H locs hw9 h9 => ?_)
  replace hw := hw9
  clear hw9
  replace h := h9
  clear h9
  refine lv_if_eq (tgt := 10) B.1.1 B.1.2.1 dX2_laidInRow_5 (by decide) (fun hc => ?_) (fun hc => ?_)
  · replace hw := hw.1 hc
    refine lv_aload_n B.1.1 B.1.2.1 dX2_laidInRow_10 rfl (lv_at hl 0 rfl) ?_
    refine lv_iload_n B.1.1 B.1.2.1 dX2_laidInRow_11 rfl (lv_at hl 1 rfl) ?_
    refine lv_iconst (v := (1 : Int32)) B.1.1 B.1.2.1 dX2_laidInRow_12 (by decide) ?_
    refine lv_iadd B.1.1 B.1.2.1 dX2_laidInRow_13 ?_
    obtain ⟨hok, hw⟩ := hw
    refine q_callIV B h (met_X2_doseHeldBack l a0 (x1 + (1 : Int32))) (CB B 1 kC_X2_doseHeldBack kI_RX2 kM_RX2_60 hd_X2_doseHeldBack ⟨Nat.le_of_ble_eq_true rfl, Nat.le_of_ble_eq_true rfl⟩) kO_X2_doseHeldBack kV_X2_doseHeldBack (ci := 2) rfl (by decide) hok.1 hok.2 (rest := []) rfl rfl hl.1 (Nat.le_of_ble_eq_true rfl) dX2_laidInRow_14 ⟨Nat.le_of_ble_eq_true rfl, Nat.le_of_ble_eq_true rfl⟩ hw (fun r2 S2 H locs hw9 h9 => ?_)
    replace hw := hw9
    clear hw9
    replace h := h9
    clear h9
    refine lv_iconst (v := (1 : Int32)) B.1.1 B.1.2.1 dX2_laidInRow_17 (by decide) ?_
    refine lv_iadd B.1.1 B.1.2.1 dX2_laidInRow_18 ?_
    refine lv_iconst (v := (2 : Int32)) B.1.1 B.1.2.1 dX2_laidInRow_19 (by decide) ?_
    refine lv_idiv B.1.1 B.1.2.1 dX2_laidInRow_20 (by decide) ?_
    refine lv_istore_n (i := 2) (lv' := [(2, .int ((r2 + (1 : Int32)) / (2 : Int32))), (0, .ref a0), (1, .int x1)]) B.1.1 B.1.2.1 dX2_laidInRow_21 rfl hl (by decide) rfl (fun ls hl9 => ?_)
    replace hl := hl9
    clear hl9
    refine lv_aload_n B.1.1 B.1.2.1 dX2_laidInRow_22 rfl (lv_at hl 1 rfl) ?_
    refine lv_iload_n B.1.1 B.1.2.1 dX2_laidInRow_23 rfl (lv_at hl 2 rfl) ?_
    refine lv_iconst (v := (1 : Int32)) B.1.1 B.1.2.1 dX2_laidInRow_24 (by decide) ?_
    refine lv_isub B.1.1 B.1.2.1 dX2_laidInRow_25 ?_
    obtain ⟨hok, hw⟩ := hw
    refine q_callIV B h (met_X2_doseHeldBack l a0 (x1 - (1 : Int32))) (CB B 1 kC_X2_doseHeldBack kI_RX2 kM_RX2_60 hd_X2_doseHeldBack ⟨Nat.le_of_ble_eq_true rfl, Nat.le_of_ble_eq_true rfl⟩) kO_X2_doseHeldBack kV_X2_doseHeldBack (ci := 2) rfl (by decide) hok.1 hok.2 (rest := []) rfl rfl hl.1 (Nat.le_of_ble_eq_true rfl) dX2_laidInRow_26 ⟨Nat.le_of_ble_eq_true rfl, Nat.le_of_ble_eq_true rfl⟩ hw (fun r3 S3 H locs hw9 h9 => ?_)
    replace hw := hw9
    clear hw9
    replace h := h9
    clear h9
    refine lv_iconst (v := (2 : Int32)) B.1.1 B.1.2.1 dX2_laidInRow_29 (by decide) ?_
    refine lv_idiv B.1.1 B.1.2.1 dX2_laidInRow_30 (by decide) ?_
    refine lv_istore_n (i := 3) (lv' := [(3, .int (r3 / (2 : Int32))), (2, .int ((r2 + (1 : Int32)) / (2 : Int32))), (0, .ref a0), (1, .int x1)]) B.1.1 B.1.2.1 dX2_laidInRow_31 rfl hl (by decide) rfl (fun ls hl9 => ?_)
    replace hl := hl9
    clear hl9
    refine lv_aload_n B.1.1 B.1.2.1 dX2_laidInRow_32 rfl (lv_at hl 2 rfl) ?_
    refine lv_iload_n B.1.1 B.1.2.1 dX2_laidInRow_33 rfl (lv_at hl 3 rfl) ?_
    obtain ⟨hok, hw⟩ := hw
    refine q_callIV B h (met_X2_doseOf l a0 x1) (CB B 1 kC_X2_doseOf kI_RX2 kM_RX2_56 hd_X2_doseOf ⟨Nat.le_of_ble_eq_true rfl, Nat.le_of_ble_eq_true rfl⟩) kO_X2_doseOf kV_X2_doseOf (ci := 2) rfl (by decide) hok.1 hok.2 (rest := []) rfl rfl hl.1 (Nat.le_of_ble_eq_true rfl) dX2_laidInRow_34 ⟨Nat.le_of_ble_eq_true rfl, Nat.le_of_ble_eq_true rfl⟩ hw (fun r4 S4 H locs hw9 h9 => ?_)
    replace hw := hw9
    clear hw9
    replace h := h9
    clear h9
    refine lv_iload_n B.1.1 B.1.2.1 dX2_laidInRow_37 rfl (lv_at hl 1 rfl) ?_
    refine lv_iadd B.1.1 B.1.2.1 dX2_laidInRow_38 ?_
    refine lv_iload_n B.1.1 B.1.2.1 dX2_laidInRow_39 rfl (lv_at hl 0 rfl) ?_
    refine lv_iadd B.1.1 B.1.2.1 dX2_laidInRow_40 ?_
    refine lv_bipush (v := (15 : Int32)) B.1.1 B.1.2.1 dX2_laidInRow_41 (by decide) ?_
    refine q_min B kM_RX2_46 kS_math_min kI_java_lang_Math kC_math_min hl.1 (Nat.le_of_ble_eq_true rfl) (Nat.le_of_ble_eq_true rfl) (Nat.le_of_ble_eq_true rfl) (Nat.le_of_ble_eq_true rfl) dX2_laidInRow_43 ?_
    refine lv_aload_n B.1.1 B.1.2.1 dX2_laidInRow_46 rfl (lv_at hl 2 rfl) ?_
    obtain ⟨hok, hw⟩ := hw
    refine q_getI B h (ci := 2) (j := 0) (code := 64) rfl inT_2 (by decide) kF_RX2_9 rfl rfl rfl (by decide) dX2_laidInRow_47 hok.1 hok.2 ?_
    refine lv_imul B.1.1 B.1.2.1 dX2_laidInRow_50 ?_
    refine lv_bipush (v := (100 : Int32)) B.1.1 B.1.2.1 dX2_laidInRow_51 (by decide) ?_
    refine lv_idiv B.1.1 B.1.2.1 dX2_laidInRow_53 (by decide) ?_
    exact q_iret B hr hlk h hw dX2_laidInRow_54 (Nat.le_of_ble_eq_true rfl) (Nat.le_of_ble_eq_true rfl)
  · replace hw := hw.2 hc
    refine lv_iconst (v := (0 : Int32)) B.1.1 B.1.2.1 dX2_laidInRow_8 (by decide) ?_
    exact q_iret B hr hlk h hw dX2_laidInRow_9 (Nat.le_of_ble_eq_true rfl) (Nat.le_of_ble_eq_true rfl)
set_option maxHeartbeats 4000000 in
set_option maxRecDepth 100000 in
theorem met_X2_start (l : Launch) (a0 : Nat) (p1 : Option Nat) (p2 : Option Nat) (x3 : Int32) : MV l yX2_start cX2_start 4 none 0 0 0 0 [.ref a0, va_rf p1, va_rf p2, .int x3] (wX2_start a0 p1 p2 x3) := by
  refine MV.of (by decide) (by simp [lg_sl, rf_cat, cat_i, cat_r, cat_n, cat_j, cat_f, cat_d]) ?_
  intro p e s m below meth c D cs lo S Q ls B hr hlk hin
  intro h hl hw
  replace hl : lv_has ls 4 [(0, .ref a0), (1, va_rf p1), (2, va_rf p2), (3, .int x3)] := by simpa [lv_args, rf_cat, cat_i, cat_r, cat_n, cat_j, cat_f, cat_d] using hl
  refine q_aload_n B.1.1 B.1.2.1 dX2_start_0 rfl (lv_at hl 2 rfl) ?_
  refine lv_iconst (v := (-1 : Int32)) B.1.1 B.1.2.1 dX2_start_1 (by decide) ?_
  obtain ⟨q1, hn, hw⟩ := hw
  subst hn
  replace hl : lv_has ls 4 [(0, .ref a0), (1, va_rf p1), (2, .ref q1), (3, .int x3)] := hl
  obtain ⟨hok, hw⟩ := hw
  refine q_putIN B h (ci := 3) (j := 6) (code := 102) (v := (-1 : Int32)) rfl inT_3 tyX3 tyX3_ok nmX3 (by decide) kF_RX2_63 rfl rfl rfl rfl (by decide) (by first | rfl | decide) (by first | rfl | decide) dX2_start_2 hok.1 hok.2 (fun H locs h9 => ?_)
  obtain ⟨S1, hS1, hh⟩ : ∃ z, z = sI S 102 q1 (-1 : Int32) ∧ Hx D cs lo s z H locs := ⟨_, rfl, h9⟩
  clear h9
  replace h := hh
  clear hh
  replace hw := hw S1 hS1
  refine lv_aload_n B.1.1 B.1.2.1 dX2_start_5 rfl (lv_at hl 2 rfl) ?_
  refine lv_iconst (v := (1 : Int32)) B.1.1 B.1.2.1 dX2_start_6 (by decide) ?_
  obtain ⟨hok, hw⟩ := hw
  refine q_putIN B h (ci := 3) (j := 7) (code := 103) (v := (1 : Int32)) rfl inT_3 tyX3 tyX3_ok nmX3 (by decide) kF_RX2_68 rfl rfl rfl rfl (by decide) (by first | rfl | decide) (by first | rfl | decide) dX2_start_7 hok.1 hok.2 (fun H locs h9 => ?_)
  obtain ⟨S2, hS2, hh⟩ : ∃ z, z = sI S1 103 q1 (1 : Int32) ∧ Hx D cs lo s z H locs := ⟨_, rfl, h9⟩
  clear h9
  replace h := hh
  clear hh
  replace hw := hw S2 hS2
  refine lv_aload_n B.1.1 B.1.2.1 dX2_start_10 rfl (lv_at hl 0 rfl) ?_
  refine lv_dup B.1.1 B.1.2.1 dX2_start_11 rfl ?_
  obtain ⟨hok, hw⟩ := hw
  refine q_getI B h (ci := 2) (j := 5) (code := 69) rfl inT_2 (by decide) kF_RX2_29 rfl rfl rfl (by decide) dX2_start_12 hok.1 hok.2 ?_
  refine lv_iconst (v := (1 : Int32)) B.1.1 B.1.2.1 dX2_start_15 (by decide) ?_
  refine lv_isub B.1.1 B.1.2.1 dX2_start_16 ?_
  obtain ⟨hok, hw⟩ := hw
  refine q_putI B h (ci := 2) (j := 5) (code := 69) (v := ((gI S2 69 a0) - (1 : Int32))) rfl inT_2 tyX2 tyX2_ok nmX2 (by decide) kF_RX2_29 rfl rfl rfl rfl (by decide) (by first | rfl | decide) (by first | rfl | decide) dX2_start_17 hok.1 hok.2 (fun H locs h9 => ?_)
  obtain ⟨S3, hS3, hh⟩ : ∃ z, z = sI S2 69 a0 ((gI S2 69 a0) - (1 : Int32)) ∧ Hx D cs lo s z H locs := ⟨_, rfl, h9⟩
  clear h9
  replace h := hh
  clear hh
  replace hw := hw S3 hS3
  refine lv_aload_n B.1.1 B.1.2.1 dX2_start_20 rfl (lv_at hl 0 rfl) ?_
  refine q_aload_n B.1.1 B.1.2.1 dX2_start_21 rfl (lv_at hl 1 rfl) ?_
  obtain ⟨hok, hw⟩ := hw
  refine q_putR B h (ci := 2) (j := 6) (code := 70) (v := p1) rfl inT_2 tyX2 tyX2_ok nmX2 (by decide) kF_RX2_32 rfl rfl rfl rfl (by decide) (by cases p1 <;> rfl) (by cases p1 <;> rfl) dX2_start_22 hok.1 hok.2 (fun H locs h9 => ?_)
  obtain ⟨S4, hS4, hh⟩ : ∃ z, z = sR S3 70 a0 p1 ∧ Hx D cs lo s z H locs := ⟨_, rfl, h9⟩
  clear h9
  replace h := hh
  clear hh
  replace hw := hw S4 hS4
  refine lv_aload_n B.1.1 B.1.2.1 dX2_start_25 rfl (lv_at hl 0 rfl) ?_
  refine lv_aload_n B.1.1 B.1.2.1 dX2_start_26 rfl (lv_at hl 2 rfl) ?_
  obtain ⟨hok, hw⟩ := hw
  refine q_putR B h (ci := 2) (j := 7) (code := 71) (v := (some q1)) rfl inT_2 tyX2 tyX2_ok nmX2 (by decide) kF_RX2_36 rfl rfl rfl rfl (by decide) rfl rfl dX2_start_27 hok.1 hok.2 (fun H locs h9 => ?_)
  obtain ⟨S5, hS5, hh⟩ : ∃ z, z = sR S4 71 a0 (some q1) ∧ Hx D cs lo s z H locs := ⟨_, rfl, h9⟩
  clear h9
  replace h := hh
  clear hh
  replace hw := hw S5 hS5
  refine lv_aload_n B.1.1 B.1.2.1 dX2_start_30 rfl (lv_at hl 0 rfl) ?_
  refine lv_iload_n B.1.1 B.1.2.1 dX2_start_31 rfl (lv_at hl 3 rfl) ?_
  obtain ⟨hok, hw⟩ := hw
  refine q_putI B h (ci := 2) (j := 8) (code := 72) (v := x3) rfl inT_2 tyX2 tyX2_ok nmX2 (by decide) kF_RX2_40 rfl rfl rfl rfl (by decide) (by first | rfl | decide) (by first | rfl | decide) dX2_start_32 hok.1 hok.2 (fun H locs h9 => ?_)
  obtain ⟨S6, hS6, hh⟩ : ∃ z, z = sI S5 72 a0 x3 ∧ Hx D cs lo s z H locs := ⟨_, rfl, h9⟩
  clear h9
  replace h := hh
  clear hh
  replace hw := hw S6 hS6
  refine lv_aload_n B.1.1 B.1.2.1 dX2_start_35 rfl (lv_at hl 0 rfl) ?_
  refine lv_aload_n B.1.1 B.1.2.1 dX2_start_36 rfl (lv_at hl 2 rfl) ?_
  obtain ⟨hok, hw⟩ := hw
  refine q_getIN B h (ci := 3) (j := 2) (code := 98) rfl inT_3 (by decide) kF_RX2_72 rfl rfl rfl (by decide) dX2_start_37 hok.1 hok.2 ?_
  refine lv_aload_n B.1.1 B.1.2.1 dX2_start_40 rfl (lv_at hl 2 rfl) ?_
  obtain ⟨hok, hw⟩ := hw
  refine q_getIN B h (ci := 3) (j := 1) (code := 97) rfl inT_3 (by decide) kF_RX2_75 rfl rfl rfl (by decide) dX2_start_41 hok.1 hok.2 ?_
  refine lv_isub B.1.1 B.1.2.1 dX2_start_44 ?_
  obtain ⟨hok, hw⟩ := hw
  refine q_putI B h (ci := 2) (j := 9) (code := 73) (v := ((gI S6 98 q1) - (gI S6 97 q1))) rfl inT_2 tyX2 tyX2_ok nmX2 (by decide) kF_RX2_43 rfl rfl rfl rfl (by decide) (by first | rfl | decide) (by first | rfl | decide) dX2_start_45 hok.1 hok.2 (fun H locs h9 => ?_)
  obtain ⟨S7, hS7, hh⟩ : ∃ z, z = sI S6 73 a0 ((gI S6 98 q1) - (gI S6 97 q1)) ∧ Hx D cs lo s z H locs := ⟨_, rfl, h9⟩
  clear h9
  replace h := hh
  clear hh
  replace hw := hw S7 hS7
  exact q_vret B hr hlk h hw dX2_start_48 (Nat.le_of_ble_eq_true rfl) (Nat.le_of_ble_eq_true rfl)
end
section
theorem dX0_hasColumn_0 : decode cX0_hasColumn 0 = .ok (.iload_n 1, 1) := by decide +kernel
theorem dX0_hasColumn_1 : decode cX0_hasColumn 1 = .ok (.ifCond .lt 15, 3) := by decide +kernel
theorem dX0_hasColumn_4 : decode cX0_hasColumn 4 = .ok (.iload_n 1, 1) := by decide +kernel
theorem dX0_hasColumn_5 : decode cX0_hasColumn 5 = .ok (.aload_n 0, 1) := by decide +kernel
theorem dX0_hasColumn_6 : decode cX0_hasColumn 6 = .ok (.getfield 31, 3) := by decide +kernel
theorem dX0_hasColumn_9 : decode cX0_hasColumn 9 = .ok (.if_icmp .ge 7, 3) := by decide +kernel
theorem dX0_hasColumn_12 : decode cX0_hasColumn 12 = .ok (.iconst 1, 1) := by decide +kernel
theorem dX0_hasColumn_13 : decode cX0_hasColumn 13 = .ok (.goto 4, 3) := by decide +kernel
theorem dX0_hasColumn_16 : decode cX0_hasColumn 16 = .ok (.iconst 0, 1) := by decide +kernel
theorem dX0_hasColumn_17 : decode cX0_hasColumn 17 = .ok (.ireturn, 1) := by decide +kernel
theorem dX0_stripOf_0 : decode cX0_stripOf 0 = .ok (.iload_n 1, 1) := by decide +kernel
theorem dX0_stripOf_1 : decode cX0_stripOf 1 = .ok (.ifCond .lt 21, 3) := by decide +kernel
theorem dX0_stripOf_4 : decode cX0_stripOf 4 = .ok (.iload_n 1, 1) := by decide +kernel
theorem dX0_stripOf_5 : decode cX0_stripOf 5 = .ok (.aload_n 0, 1) := by decide +kernel
theorem dX0_stripOf_6 : decode cX0_stripOf 6 = .ok (.getfield 23, 3) := by decide +kernel
theorem dX0_stripOf_9 : decode cX0_stripOf 9 = .ok (.arraylength, 1) := by decide +kernel
theorem dX0_stripOf_10 : decode cX0_stripOf 10 = .ok (.if_icmp .ge 12, 3) := by decide +kernel
theorem dX0_stripOf_13 : decode cX0_stripOf 13 = .ok (.aload_n 0, 1) := by decide +kernel
theorem dX0_stripOf_14 : decode cX0_stripOf 14 = .ok (.getfield 23, 3) := by decide +kernel
theorem dX0_stripOf_17 : decode cX0_stripOf 17 = .ok (.iload_n 1, 1) := by decide +kernel
theorem dX0_stripOf_18 : decode cX0_stripOf 18 = .ok (.aaload, 1) := by decide +kernel
theorem dX0_stripOf_19 : decode cX0_stripOf 19 = .ok (.goto 4, 3) := by decide +kernel
theorem dX0_stripOf_22 : decode cX0_stripOf 22 = .ok (.aconst_null, 1) := by decide +kernel
theorem dX0_stripOf_23 : decode cX0_stripOf 23 = .ok (.areturn, 1) := by decide +kernel
theorem dX0_setLevels_0 : decode cX0_setLevels 0 = .ok (.iconst 0, 1) := by decide +kernel
theorem dX0_setLevels_1 : decode cX0_setLevels 1 = .ok (.istore 5, 2) := by decide +kernel
theorem dX0_setLevels_3 : decode cX0_setLevels 3 = .ok (.iload_n 2, 1) := by decide +kernel
theorem dX0_setLevels_4 : decode cX0_setLevels 4 = .ok (.istore 6, 2) := by decide +kernel
theorem dX0_setLevels_6 : decode cX0_setLevels 6 = .ok (.iload 6, 2) := by decide +kernel
theorem dX0_setLevels_8 : decode cX0_setLevels 8 = .ok (.iload_n 3, 1) := by decide +kernel
theorem dX0_setLevels_9 : decode cX0_setLevels 9 = .ok (.if_icmp .ge 29, 3) := by decide +kernel
theorem dX0_setLevels_12 : decode cX0_setLevels 12 = .ok (.aload_n 0, 1) := by decide +kernel
theorem dX0_setLevels_13 : decode cX0_setLevels 13 = .ok (.getfield 12, 3) := by decide +kernel
theorem dX0_setLevels_16 : decode cX0_setLevels 16 = .ok (.iload_n 1, 1) := by decide +kernel
theorem dX0_setLevels_17 : decode cX0_setLevels 17 = .ok (.iload 6, 2) := by decide +kernel
theorem dX0_setLevels_19 : decode cX0_setLevels 19 = .ok (.iload 4, 2) := by decide +kernel
theorem dX0_setLevels_21 : decode cX0_setLevels 21 = .ok (.invokevirtual 52, 3) := by decide +kernel
theorem dX0_setLevels_24 : decode cX0_setLevels 24 = .ok (.iload 4, 2) := by decide +kernel
theorem dX0_setLevels_26 : decode cX0_setLevels 26 = .ok (.if_icmp .eq 6, 3) := by decide +kernel
theorem dX0_setLevels_29 : decode cX0_setLevels 29 = .ok (.iinc 5 1, 3) := by decide +kernel
theorem dX0_setLevels_32 : decode cX0_setLevels 32 = .ok (.iinc 6 1, 3) := by decide +kernel
theorem dX0_setLevels_35 : decode cX0_setLevels 35 = .ok (.goto (-29), 3) := by decide +kernel
theorem dX0_setLevels_38 : decode cX0_setLevels 38 = .ok (.iload 5, 2) := by decide +kernel
theorem dX0_setLevels_40 : decode cX0_setLevels 40 = .ok (.ireturn, 1) := by decide +kernel
theorem dX0_share_0 : decode cX0_share 0 = .ok (.aload_n 1, 1) := by decide +kernel
theorem dX0_share_1 : decode cX0_share 1 = .ok (.aload_n 0, 1) := by decide +kernel
theorem dX0_share_2 : decode cX0_share 2 = .ok (.getfield 12, 3) := by decide +kernel
theorem dX0_share_5 : decode cX0_share 5 = .ok (.iload_n 2, 1) := by decide +kernel
theorem dX0_share_6 : decode cX0_share 6 = .ok (.iload_n 3, 1) := by decide +kernel
theorem dX0_share_7 : decode cX0_share 7 = .ok (.invokevirtual 56, 3) := by decide +kernel
theorem dX0_share_10 : decode cX0_share 10 = .ok (.iload_n 3, 1) := by decide +kernel
theorem dX0_share_11 : decode cX0_share 11 = .ok (.invokevirtual 59, 3) := by decide +kernel
theorem dX0_share_14 : decode cX0_share 14 = .ok (.ireturn, 1) := by decide +kernel
theorem dX0_firstWaitingFor_0 : decode cX0_firstWaitingFor 0 = .ok (.iconst 0, 1) := by decide +kernel
theorem dX0_firstWaitingFor_1 : decode cX0_firstWaitingFor 1 = .ok (.istore_n 2, 1) := by decide +kernel
theorem dX0_firstWaitingFor_2 : decode cX0_firstWaitingFor 2 = .ok (.iload_n 2, 1) := by decide +kernel
theorem dX0_firstWaitingFor_3 : decode cX0_firstWaitingFor 3 = .ok (.aload_n 0, 1) := by decide +kernel
theorem dX0_firstWaitingFor_4 : decode cX0_firstWaitingFor 4 = .ok (.getfield 23, 3) := by decide +kernel
theorem dX0_firstWaitingFor_7 : decode cX0_firstWaitingFor 7 = .ok (.arraylength, 1) := by decide +kernel
theorem dX0_firstWaitingFor_8 : decode cX0_firstWaitingFor 8 = .ok (.if_icmp .ge 30, 3) := by decide +kernel
theorem dX0_firstWaitingFor_11 : decode cX0_firstWaitingFor 11 = .ok (.aload_n 0, 1) := by decide +kernel
theorem dX0_firstWaitingFor_12 : decode cX0_firstWaitingFor 12 = .ok (.getfield 23, 3) := by decide +kernel
theorem dX0_firstWaitingFor_15 : decode cX0_firstWaitingFor 15 = .ok (.iload_n 2, 1) := by decide +kernel
theorem dX0_firstWaitingFor_16 : decode cX0_firstWaitingFor 16 = .ok (.aaload, 1) := by decide +kernel
theorem dX0_firstWaitingFor_17 : decode cX0_firstWaitingFor 17 = .ok (.astore_n 3, 1) := by decide +kernel
theorem dX0_firstWaitingFor_18 : decode cX0_firstWaitingFor 18 = .ok (.aload_n 3, 1) := by decide +kernel
theorem dX0_firstWaitingFor_19 : decode cX0_firstWaitingFor 19 = .ok (.ifnull 13, 3) := by decide +kernel
theorem dX0_firstWaitingFor_22 : decode cX0_firstWaitingFor 22 = .ok (.aload_n 3, 1) := by decide +kernel
theorem dX0_firstWaitingFor_23 : decode cX0_firstWaitingFor 23 = .ok (.getfield 62, 3) := by decide +kernel
theorem dX0_firstWaitingFor_26 : decode cX0_firstWaitingFor 26 = .ok (.iload_n 1, 1) := by decide +kernel
theorem dX0_firstWaitingFor_27 : decode cX0_firstWaitingFor 27 = .ok (.if_icmp .ne 5, 3) := by decide +kernel
theorem dX0_firstWaitingFor_30 : decode cX0_firstWaitingFor 30 = .ok (.aload_n 3, 1) := by decide +kernel
theorem dX0_firstWaitingFor_31 : decode cX0_firstWaitingFor 31 = .ok (.areturn, 1) := by decide +kernel
theorem dX0_firstWaitingFor_32 : decode cX0_firstWaitingFor 32 = .ok (.iinc 2 1, 3) := by decide +kernel
theorem dX0_firstWaitingFor_35 : decode cX0_firstWaitingFor 35 = .ok (.goto (-33), 3) := by decide +kernel
theorem dX0_firstWaitingFor_38 : decode cX0_firstWaitingFor 38 = .ok (.aconst_null, 1) := by decide +kernel
theorem dX0_firstWaitingFor_39 : decode cX0_firstWaitingFor 39 = .ok (.areturn, 1) := by decide +kernel
theorem dX0_layDot_0 : decode cX0_layDot 0 = .ok (.aload_n 1, 1) := by decide +kernel
theorem dX0_layDot_1 : decode cX0_layDot 1 = .ok (.getfield 65, 3) := by decide +kernel
theorem dX0_layDot_4 : decode cX0_layDot 4 = .ok (.iload_n 2, 1) := by decide +kernel
theorem dX0_layDot_5 : decode cX0_layDot 5 = .ok (.iload_n 3, 1) := by decide +kernel
theorem dX0_layDot_6 : decode cX0_layDot 6 = .ok (.iload 4, 2) := by decide +kernel
theorem dX0_layDot_8 : decode cX0_layDot 8 = .ok (.invokevirtual 52, 3) := by decide +kernel
theorem dX0_layDot_11 : decode cX0_layDot 11 = .ok (.istore 5, 2) := by decide +kernel
theorem dX0_layDot_13 : decode cX0_layDot 13 = .ok (.aload_n 0, 1) := by decide +kernel
theorem dX0_layDot_14 : decode cX0_layDot 14 = .ok (.getfield 18, 3) := by decide +kernel
theorem dX0_layDot_17 : decode cX0_layDot 17 = .ok (.iload_n 2, 1) := by decide +kernel
theorem dX0_layDot_18 : decode cX0_layDot 18 = .ok (.iload_n 3, 1) := by decide +kernel
theorem dX0_layDot_19 : decode cX0_layDot 19 = .ok (.aload_n 0, 1) := by decide +kernel
theorem dX0_layDot_20 : decode cX0_layDot 20 = .ok (.getfield 18, 3) := by decide +kernel
theorem dX0_layDot_23 : decode cX0_layDot 23 = .ok (.iload_n 2, 1) := by decide +kernel
theorem dX0_layDot_24 : decode cX0_layDot 24 = .ok (.iload_n 3, 1) := by decide +kernel
theorem dX0_layDot_25 : decode cX0_layDot 25 = .ok (.invokevirtual 56, 3) := by decide +kernel
theorem dX0_layDot_28 : decode cX0_layDot 28 = .ok (.iload 5, 2) := by decide +kernel
theorem dX0_layDot_30 : decode cX0_layDot 30 = .ok (.isub, 1) := by decide +kernel
theorem dX0_layDot_31 : decode cX0_layDot 31 = .ok (.iload 4, 2) := by decide +kernel
theorem dX0_layDot_33 : decode cX0_layDot 33 = .ok (.iadd, 1) := by decide +kernel
theorem dX0_layDot_34 : decode cX0_layDot 34 = .ok (.invokevirtual 52, 3) := by decide +kernel
theorem dX0_layDot_37 : decode cX0_layDot 37 = .ok (.pop, 1) := by decide +kernel
theorem dX0_layDot_38 : decode cX0_layDot 38 = .ok (.aload_n 0, 1) := by decide +kernel
theorem dX0_layDot_39 : decode cX0_layDot 39 = .ok (.dup, 1) := by decide +kernel
theorem dX0_layDot_40 : decode cX0_layDot 40 = .ok (.getfield 27, 3) := by decide +kernel
theorem dX0_layDot_43 : decode cX0_layDot 43 = .ok (.iload 4, 2) := by decide +kernel
theorem dX0_layDot_45 : decode cX0_layDot 45 = .ok (.iadd, 1) := by decide +kernel
theorem dX0_layDot_46 : decode cX0_layDot 46 = .ok (.putfield 27, 3) := by decide +kernel
theorem dX0_layDot_49 : decode cX0_layDot 49 = .ok (.return_, 1) := by decide +kernel
theorem dX0_inkAt_0 : decode cX0_inkAt 0 = .ok (.aload_n 0, 1) := by decide +kernel
theorem dX0_inkAt_1 : decode cX0_inkAt 1 = .ok (.getfield 18, 3) := by decide +kernel
theorem dX0_inkAt_4 : decode cX0_inkAt 4 = .ok (.iload_n 1, 1) := by decide +kernel
theorem dX0_inkAt_5 : decode cX0_inkAt 5 = .ok (.iload_n 2, 1) := by decide +kernel
theorem dX0_inkAt_6 : decode cX0_inkAt 6 = .ok (.invokevirtual 56, 3) := by decide +kernel
theorem dX0_inkAt_9 : decode cX0_inkAt 9 = .ok (.aload_n 0, 1) := by decide +kernel
theorem dX0_inkAt_10 : decode cX0_inkAt 10 = .ok (.getfield 34, 3) := by decide +kernel
theorem dX0_inkAt_13 : decode cX0_inkAt 13 = .ok (.invokestatic 40, 3) := by decide +kernel
theorem dX0_inkAt_16 : decode cX0_inkAt 16 = .ok (.ireturn, 1) := by decide +kernel
theorem dX0_spiltDots_0 : decode cX0_spiltDots 0 = .ok (.iconst 0, 1) := by decide +kernel
theorem dX0_spiltDots_1 : decode cX0_spiltDots 1 = .ok (.istore_n 1, 1) := by decide +kernel
theorem dX0_spiltDots_2 : decode cX0_spiltDots 2 = .ok (.iconst 0, 1) := by decide +kernel
theorem dX0_spiltDots_3 : decode cX0_spiltDots 3 = .ok (.istore_n 2, 1) := by decide +kernel
theorem dX0_spiltDots_4 : decode cX0_spiltDots 4 = .ok (.iload_n 2, 1) := by decide +kernel
theorem dX0_spiltDots_5 : decode cX0_spiltDots 5 = .ok (.bipush 8, 2) := by decide +kernel
theorem dX0_spiltDots_7 : decode cX0_spiltDots 7 = .ok (.if_icmp .ge 44, 3) := by decide +kernel
theorem dX0_spiltDots_10 : decode cX0_spiltDots 10 = .ok (.iconst 0, 1) := by decide +kernel
theorem dX0_spiltDots_11 : decode cX0_spiltDots 11 = .ok (.istore_n 3, 1) := by decide +kernel
theorem dX0_spiltDots_12 : decode cX0_spiltDots 12 = .ok (.iload_n 3, 1) := by decide +kernel
theorem dX0_spiltDots_13 : decode cX0_spiltDots 13 = .ok (.aload_n 0, 1) := by decide +kernel
theorem dX0_spiltDots_14 : decode cX0_spiltDots 14 = .ok (.getfield 31, 3) := by decide +kernel
theorem dX0_spiltDots_17 : decode cX0_spiltDots 17 = .ok (.if_icmp .ge 28, 3) := by decide +kernel
theorem dX0_spiltDots_20 : decode cX0_spiltDots 20 = .ok (.aload_n 0, 1) := by decide +kernel
theorem dX0_spiltDots_21 : decode cX0_spiltDots 21 = .ok (.getfield 18, 3) := by decide +kernel
theorem dX0_spiltDots_24 : decode cX0_spiltDots 24 = .ok (.iload_n 2, 1) := by decide +kernel
theorem dX0_spiltDots_25 : decode cX0_spiltDots 25 = .ok (.iload_n 3, 1) := by decide +kernel
theorem dX0_spiltDots_26 : decode cX0_spiltDots 26 = .ok (.invokevirtual 56, 3) := by decide +kernel
theorem dX0_spiltDots_29 : decode cX0_spiltDots 29 = .ok (.aload_n 0, 1) := by decide +kernel
theorem dX0_spiltDots_30 : decode cX0_spiltDots 30 = .ok (.getfield 34, 3) := by decide +kernel
theorem dX0_spiltDots_33 : decode cX0_spiltDots 33 = .ok (.if_icmp .le 6, 3) := by decide +kernel
theorem dX0_spiltDots_36 : decode cX0_spiltDots 36 = .ok (.iinc 1 1, 3) := by decide +kernel
theorem dX0_spiltDots_39 : decode cX0_spiltDots 39 = .ok (.iinc 3 1, 3) := by decide +kernel
theorem dX0_spiltDots_42 : decode cX0_spiltDots 42 = .ok (.goto (-30), 3) := by decide +kernel
theorem dX0_spiltDots_45 : decode cX0_spiltDots 45 = .ok (.iinc 2 1, 3) := by decide +kernel
theorem dX0_spiltDots_48 : decode cX0_spiltDots 48 = .ok (.goto (-44), 3) := by decide +kernel
theorem dX0_spiltDots_51 : decode cX0_spiltDots 51 = .ok (.iload_n 1, 1) := by decide +kernel
theorem dX0_spiltDots_52 : decode cX0_spiltDots 52 = .ok (.ireturn, 1) := by decide +kernel
theorem dX0_errorAt_0 : decode cX0_errorAt 0 = .ok (.aload_n 0, 1) := by decide +kernel
theorem dX0_errorAt_1 : decode cX0_errorAt 1 = .ok (.iload_n 1, 1) := by decide +kernel
theorem dX0_errorAt_2 : decode cX0_errorAt 2 = .ok (.iload_n 2, 1) := by decide +kernel
theorem dX0_errorAt_3 : decode cX0_errorAt 3 = .ok (.invokevirtual 66, 3) := by decide +kernel
theorem dX0_errorAt_6 : decode cX0_errorAt 6 = .ok (.aload_n 0, 1) := by decide +kernel
theorem dX0_errorAt_7 : decode cX0_errorAt 7 = .ok (.getfield 12, 3) := by decide +kernel
theorem dX0_errorAt_10 : decode cX0_errorAt 10 = .ok (.iload_n 1, 1) := by decide +kernel
theorem dX0_errorAt_11 : decode cX0_errorAt 11 = .ok (.iload_n 2, 1) := by decide +kernel
theorem dX0_errorAt_12 : decode cX0_errorAt 12 = .ok (.invokevirtual 56, 3) := by decide +kernel
theorem dX0_errorAt_15 : decode cX0_errorAt 15 = .ok (.isub, 1) := by decide +kernel
theorem dX0_errorAt_16 : decode cX0_errorAt 16 = .ok (.invokestatic 69, 3) := by decide +kernel
theorem dX0_errorAt_19 : decode cX0_errorAt 19 = .ok (.ireturn, 1) := by decide +kernel
theorem dX0_errorSum_0 : decode cX0_errorSum 0 = .ok (.iconst 0, 1) := by decide +kernel
theorem dX0_errorSum_1 : decode cX0_errorSum 1 = .ok (.istore_n 1, 1) := by decide +kernel
theorem dX0_errorSum_2 : decode cX0_errorSum 2 = .ok (.iconst 0, 1) := by decide +kernel
theorem dX0_errorSum_3 : decode cX0_errorSum 3 = .ok (.istore_n 2, 1) := by decide +kernel
theorem dX0_errorSum_4 : decode cX0_errorSum 4 = .ok (.iload_n 2, 1) := by decide +kernel
theorem dX0_errorSum_5 : decode cX0_errorSum 5 = .ok (.bipush 8, 2) := by decide +kernel
theorem dX0_errorSum_7 : decode cX0_errorSum 7 = .ok (.if_icmp .ge 34, 3) := by decide +kernel
theorem dX0_errorSum_10 : decode cX0_errorSum 10 = .ok (.iconst 0, 1) := by decide +kernel
theorem dX0_errorSum_11 : decode cX0_errorSum 11 = .ok (.istore_n 3, 1) := by decide +kernel
theorem dX0_errorSum_12 : decode cX0_errorSum 12 = .ok (.iload_n 3, 1) := by decide +kernel
theorem dX0_errorSum_13 : decode cX0_errorSum 13 = .ok (.aload_n 0, 1) := by decide +kernel
theorem dX0_errorSum_14 : decode cX0_errorSum 14 = .ok (.getfield 31, 3) := by decide +kernel
theorem dX0_errorSum_17 : decode cX0_errorSum 17 = .ok (.if_icmp .ge 18, 3) := by decide +kernel
theorem dX0_errorSum_20 : decode cX0_errorSum 20 = .ok (.iload_n 1, 1) := by decide +kernel
theorem dX0_errorSum_21 : decode cX0_errorSum 21 = .ok (.aload_n 0, 1) := by decide +kernel
theorem dX0_errorSum_22 : decode cX0_errorSum 22 = .ok (.iload_n 2, 1) := by decide +kernel
theorem dX0_errorSum_23 : decode cX0_errorSum 23 = .ok (.iload_n 3, 1) := by decide +kernel
theorem dX0_errorSum_24 : decode cX0_errorSum 24 = .ok (.invokevirtual 73, 3) := by decide +kernel
theorem dX0_errorSum_27 : decode cX0_errorSum 27 = .ok (.iadd, 1) := by decide +kernel
theorem dX0_errorSum_28 : decode cX0_errorSum 28 = .ok (.istore_n 1, 1) := by decide +kernel
theorem dX0_errorSum_29 : decode cX0_errorSum 29 = .ok (.iinc 3 1, 3) := by decide +kernel
theorem dX0_errorSum_32 : decode cX0_errorSum 32 = .ok (.goto (-20), 3) := by decide +kernel
theorem dX0_errorSum_35 : decode cX0_errorSum 35 = .ok (.iinc 2 1, 3) := by decide +kernel
theorem dX0_errorSum_38 : decode cX0_errorSum 38 = .ok (.goto (-34), 3) := by decide +kernel
theorem dX0_errorSum_41 : decode cX0_errorSum 41 = .ok (.iload_n 1, 1) := by decide +kernel
theorem dX0_errorSum_42 : decode cX0_errorSum 42 = .ok (.ireturn, 1) := by decide +kernel
theorem dX0_seamError_0 : decode cX0_seamError 0 = .ok (.aload_n 1, 1) := by decide +kernel
theorem dX0_seamError_1 : decode cX0_seamError 1 = .ok (.getfield 76, 3) := by decide +kernel
theorem dX0_seamError_4 : decode cX0_seamError 4 = .ok (.iconst 1, 1) := by decide +kernel
theorem dX0_seamError_5 : decode cX0_seamError 5 = .ok (.isub, 1) := by decide +kernel
theorem dX0_seamError_6 : decode cX0_seamError 6 = .ok (.aload_n 2, 1) := by decide +kernel
theorem dX0_seamError_7 : decode cX0_seamError 7 = .ok (.getfield 79, 3) := by decide +kernel
theorem dX0_seamError_10 : decode cX0_seamError 10 = .ok (.invokestatic 40, 3) := by decide +kernel
theorem dX0_seamError_13 : decode cX0_seamError 13 = .ok (.istore_n 3, 1) := by decide +kernel
theorem dX0_seamError_14 : decode cX0_seamError 14 = .ok (.aload_n 1, 1) := by decide +kernel
theorem dX0_seamError_15 : decode cX0_seamError 15 = .ok (.getfield 76, 3) := by decide +kernel
theorem dX0_seamError_18 : decode cX0_seamError 18 = .ok (.iconst 1, 1) := by decide +kernel
theorem dX0_seamError_19 : decode cX0_seamError 19 = .ok (.isub, 1) := by decide +kernel
theorem dX0_seamError_20 : decode cX0_seamError 20 = .ok (.aload_n 2, 1) := by decide +kernel
theorem dX0_seamError_21 : decode cX0_seamError 21 = .ok (.getfield 79, 3) := by decide +kernel
theorem dX0_seamError_24 : decode cX0_seamError 24 = .ok (.invokestatic 82, 3) := by decide +kernel
theorem dX0_seamError_27 : decode cX0_seamError 27 = .ok (.istore 4, 2) := by decide +kernel
theorem dX0_seamError_29 : decode cX0_seamError 29 = .ok (.iconst 0, 1) := by decide +kernel
theorem dX0_seamError_30 : decode cX0_seamError 30 = .ok (.istore 5, 2) := by decide +kernel
theorem dX0_seamError_32 : decode cX0_seamError 32 = .ok (.iconst 0, 1) := by decide +kernel
theorem dX0_seamError_33 : decode cX0_seamError 33 = .ok (.istore 6, 2) := by decide +kernel
theorem dX0_seamError_35 : decode cX0_seamError 35 = .ok (.iload 6, 2) := by decide +kernel
theorem dX0_seamError_37 : decode cX0_seamError 37 = .ok (.bipush 8, 2) := by decide +kernel
theorem dX0_seamError_39 : decode cX0_seamError 39 = .ok (.if_icmp .ge 40, 3) := by decide +kernel
theorem dX0_seamError_42 : decode cX0_seamError 42 = .ok (.iload_n 3, 1) := by decide +kernel
theorem dX0_seamError_43 : decode cX0_seamError 43 = .ok (.istore 7, 2) := by decide +kernel
theorem dX0_seamError_45 : decode cX0_seamError 45 = .ok (.iload 7, 2) := by decide +kernel
theorem dX0_seamError_47 : decode cX0_seamError 47 = .ok (.iload 4, 2) := by decide +kernel
theorem dX0_seamError_49 : decode cX0_seamError 49 = .ok (.if_icmp .gt 24, 3) := by decide +kernel
theorem dX0_seamError_52 : decode cX0_seamError 52 = .ok (.iload 5, 2) := by decide +kernel
theorem dX0_seamError_54 : decode cX0_seamError 54 = .ok (.aload_n 0, 1) := by decide +kernel
theorem dX0_seamError_55 : decode cX0_seamError 55 = .ok (.iload 6, 2) := by decide +kernel
theorem dX0_seamError_57 : decode cX0_seamError 57 = .ok (.iload 7, 2) := by decide +kernel
theorem dX0_seamError_59 : decode cX0_seamError 59 = .ok (.invokevirtual 73, 3) := by decide +kernel
theorem dX0_seamError_62 : decode cX0_seamError 62 = .ok (.invokestatic 82, 3) := by decide +kernel
theorem dX0_seamError_65 : decode cX0_seamError 65 = .ok (.istore 5, 2) := by decide +kernel
theorem dX0_seamError_67 : decode cX0_seamError 67 = .ok (.iinc 7 1, 3) := by decide +kernel
theorem dX0_seamError_70 : decode cX0_seamError 70 = .ok (.goto (-25), 3) := by decide +kernel
theorem dX0_seamError_73 : decode cX0_seamError 73 = .ok (.iinc 6 1, 3) := by decide +kernel
theorem dX0_seamError_76 : decode cX0_seamError 76 = .ok (.goto (-41), 3) := by decide +kernel
theorem dX0_seamError_79 : decode cX0_seamError 79 = .ok (.iload 5, 2) := by decide +kernel
theorem dX0_seamError_81 : decode cX0_seamError 81 = .ok (.ireturn, 1) := by decide +kernel

def wX0_hasColumn (a0 : Nat) (x1 : Int32) (S : HS) (Q : Int32 → HS → Prop) : Prop := ((x1 < 0 → Q (0 : Int32) S) ∧ (¬ x1 < 0 → (ok S a0 0 ∧ (((gI S 0 a0) ≤ x1 → Q (0 : Int32) S) ∧ (¬ (gI S 0 a0) ≤ x1 → Q (1 : Int32) S)))))

def wX0_stripOf (a0 : Nat) (x1 : Int32) (S : HS) (Q : Option Nat → HS → Prop) : Prop := ((x1 < 0 → Q none S) ∧ (¬ x1 < 0 → (ok S a0 0 ∧ (∀ o1, o1 = gR S 5 a0 → (∃ q1, o1 = some q1 ∧ (ok S q1 10 ∧ (((nI (gN S q1)) ≤ x1 → Q none S) ∧ (¬ (nI (gN S q1)) ≤ x1 → (ok S a0 0 ∧ (∀ o2, o2 = gR S 5 a0 → (∃ q2, o2 = some q2 ∧ (ok S q2 10 ∧ vp_in x1 (gN S q2) ∧ (∀ o3, o3 = gQ S q2 x1.toNatClampNeg → Q o3 S)))))))))))))
def wX0_setLevels_L6 (c0 : Nat) (c1 : Int32) (c3 : Int32) (c4 : Int32) : Nat → Int32 → Int32 → HS → (Int32 → Int32 → HS → Prop) → Prop
  | 0, _, _, _, _ => False
  | n + 1, m5, m6, S, K => ((c3 ≤ m6 → K m5 m6 S) ∧ (¬ c3 ≤ m6 → (ok S c0 0 ∧ (∀ o1, o1 = gR S 3 c0 → (∃ q1, o1 = some q1 ∧ (ok S q1 1 ∧ (wX1_replace q1 c1 m6 c4 S (fun r1 S1 => ((r1 = c4 → wX0_setLevels_L6 c0 c1 c3 c4 n m5 (m6 + (1 : Int32)) S1 K) ∧ (¬ r1 = c4 → wX0_setLevels_L6 c0 c1 c3 c4 n (m5 + (1 : Int32)) (m6 + (1 : Int32)) S1 K))))))))))
def wX0_setLevels (a0 : Nat) (x1 : Int32) (x2 : Int32) (x3 : Int32) (x4 : Int32) (S : HS) (Q : Int32 → HS → Prop) : Prop := (∃ n1 : Nat, wX0_setLevels_L6 a0 x1 x3 x4 n1 (0 : Int32) x2 S (fun u1 u2 S2 => Q u1 S2))

def wX0_share (a0 : Nat) (p1 : Option Nat) (x2 : Int32) (x3 : Int32) (S : HS) (Q : Int32 → HS → Prop) : Prop := (ok S a0 0 ∧ (∀ o1, o1 = gR S 3 a0 → (∃ q1, o1 = some q1 ∧ (ok S q1 1 ∧ (wX1_at q1 x2 x3 S (fun r1 S1 => (∃ q2, p1 = some q2 ∧ (ok S1 q2 3 ∧ (wX3_shareOf q2 r1 x3 S1 (fun r2 S2 => Q r2 S2))))))))))
def wX0_firstWaitingFor_L2 (c0 : Nat) (c1 : Int32) (Q : Option Nat → HS → Prop) : Nat → Int32 → HS → (Int32 → HS → Prop) → Prop
  | 0, _, _, _ => False
  | n + 1, m2, S, K => (ok S c0 0 ∧ (∀ o1, o1 = gR S 5 c0 → (∃ q1, o1 = some q1 ∧ (ok S q1 10 ∧ (((nI (gN S q1)) ≤ m2 → K m2 S) ∧ (¬ (nI (gN S q1)) ≤ m2 → (ok S c0 0 ∧ (∀ o2, o2 = gR S 5 c0 → (∃ q2, o2 = some q2 ∧ (ok S q2 10 ∧ vp_in m2 (gN S q2) ∧ (∀ o3, o3 = gQ S q2 m2.toNatClampNeg → ((o3 = none → wX0_firstWaitingFor_L2 c0 c1 Q n (m2 + (1 : Int32)) S K) ∧ (∀ q3, o3 = some q3 → (ok S q3 3 ∧ ((¬ (gI S 102 q3) = c1 → wX0_firstWaitingFor_L2 c0 c1 Q n (m2 + (1 : Int32)) S K) ∧ ((gI S 102 q3) = c1 → Q (some q3) S))))))))))))))))
def wX0_firstWaitingFor (a0 : Nat) (x1 : Int32) (S : HS) (Q : Option Nat → HS → Prop) : Prop := (∃ n1 : Nat, wX0_firstWaitingFor_L2 a0 x1 Q n1 (0 : Int32) S (fun u1 S1 => Q none S1))

def wX0_layDot (a0 : Nat) (p1 : Option Nat) (x2 : Int32) (x3 : Int32) (x4 : Int32) (S : HS) (Q : HS → Prop) : Prop := (∃ q1, p1 = some q1 ∧ (ok S q1 3 ∧ (∀ o1, o1 = gR S 101 q1 → (∃ q2, o1 = some q2 ∧ (ok S q2 1 ∧ (wX1_replace q2 x2 x3 x4 S (fun r1 S1 => (ok S1 a0 0 ∧ (∀ o2, o2 = gR S1 4 a0 → (ok S1 a0 0 ∧ (∀ o3, o3 = gR S1 4 a0 → (∃ q3, o3 = some q3 ∧ (ok S1 q3 1 ∧ (wX1_at q3 x2 x3 S1 (fun r2 S2 => (∃ q4, o2 = some q4 ∧ (ok S2 q4 1 ∧ (wX1_replace q4 x2 x3 ((r2 - r1) + x4) S2 (fun r3 S3 => (ok S3 a0 0 ∧ (ok S3 a0 0 ∧ (∀ S4, S4 = sI S3 7 a0 ((gI S3 7 a0) + x4) → Q S4))))))))))))))))))))))

def wX0_inkAt (a0 : Nat) (x1 : Int32) (x2 : Int32) (S : HS) (Q : Int32 → HS → Prop) : Prop := (ok S a0 0 ∧ (∀ o1, o1 = gR S 4 a0 → (∃ q1, o1 = some q1 ∧ (ok S q1 1 ∧ (wX1_at q1 x1 x2 S (fun r1 S1 => (ok S1 a0 0 ∧ Q (if (gI S1 1 a0) < r1 then (gI S1 1 a0) else r1) S1)))))))
def wX0_spiltDots_L12 (c0 : Nat) (c2 : Int32) : Nat → Int32 → Int32 → HS → (Int32 → Int32 → HS → Prop) → Prop
  | 0, _, _, _, _ => False
  | n + 1, m1, m3, S, K => (ok S c0 0 ∧ (((gI S 0 c0) ≤ m3 → K m1 m3 S) ∧ (¬ (gI S 0 c0) ≤ m3 → (ok S c0 0 ∧ (∀ o1, o1 = gR S 4 c0 → (∃ q1, o1 = some q1 ∧ (ok S q1 1 ∧ (wX1_at q1 c2 m3 S (fun r1 S1 => (ok S1 c0 0 ∧ ((r1 ≤ (gI S1 1 c0) → wX0_spiltDots_L12 c0 c2 n m1 (m3 + (1 : Int32)) S1 K) ∧ (¬ r1 ≤ (gI S1 1 c0) → wX0_spiltDots_L12 c0 c2 n (m1 + (1 : Int32)) (m3 + (1 : Int32)) S1 K))))))))))))
def wX0_spiltDots_L4 (c0 : Nat) : Nat → Int32 → Int32 → HS → (Int32 → Int32 → HS → Prop) → Prop
  | 0, _, _, _, _ => False
  | n + 1, m1, m2, S, K => (((8 : Int32) ≤ m2 → K m1 m2 S) ∧ (¬ (8 : Int32) ≤ m2 → (∃ n1 : Nat, wX0_spiltDots_L12 c0 m2 n1 m1 (0 : Int32) S (fun u1 u2 S2 => wX0_spiltDots_L4 c0 n u1 (m2 + (1 : Int32)) S2 K))))
def wX0_spiltDots (a0 : Nat) (S : HS) (Q : Int32 → HS → Prop) : Prop := (∃ n2 : Nat, wX0_spiltDots_L4 a0 n2 (0 : Int32) (0 : Int32) S (fun u3 u4 S3 => Q u3 S3))

def wX0_errorAt (a0 : Nat) (x1 : Int32) (x2 : Int32) (S : HS) (Q : Int32 → HS → Prop) : Prop := (ok S a0 0 ∧ (wX0_inkAt a0 x1 x2 S (fun r1 S1 => (ok S1 a0 0 ∧ (∀ o1, o1 = gR S1 3 a0 → (∃ q1, o1 = some q1 ∧ (ok S1 q1 1 ∧ (wX1_at q1 x1 x2 S1 (fun r2 S2 => Q (if 0 ≤ (r1 - r2) then (r1 - r2) else 0 - (r1 - r2)) S2)))))))))
def wX0_errorSum_L12 (c0 : Nat) (c2 : Int32) : Nat → Int32 → Int32 → HS → (Int32 → Int32 → HS → Prop) → Prop
  | 0, _, _, _, _ => False
  | n + 1, m1, m3, S, K => (ok S c0 0 ∧ (((gI S 0 c0) ≤ m3 → K m1 m3 S) ∧ (¬ (gI S 0 c0) ≤ m3 → (ok S c0 0 ∧ (wX0_errorAt c0 c2 m3 S (fun r1 S1 => wX0_errorSum_L12 c0 c2 n (m1 + r1) (m3 + (1 : Int32)) S1 K))))))
def wX0_errorSum_L4 (c0 : Nat) : Nat → Int32 → Int32 → HS → (Int32 → Int32 → HS → Prop) → Prop
  | 0, _, _, _, _ => False
  | n + 1, m1, m2, S, K => (((8 : Int32) ≤ m2 → K m1 m2 S) ∧ (¬ (8 : Int32) ≤ m2 → (∃ n1 : Nat, wX0_errorSum_L12 c0 m2 n1 m1 (0 : Int32) S (fun u1 u2 S2 => wX0_errorSum_L4 c0 n u1 (m2 + (1 : Int32)) S2 K))))
def wX0_errorSum (a0 : Nat) (S : HS) (Q : Int32 → HS → Prop) : Prop := (∃ n2 : Nat, wX0_errorSum_L4 a0 n2 (0 : Int32) (0 : Int32) S (fun u3 u4 S3 => Q u3 S3))
def wX0_seamError_L45 (c0 : Nat) (c3 : Int32) (c4 : Int32) (c6 : Int32) : Nat → Int32 → Int32 → HS → (Int32 → Int32 → HS → Prop) → Prop
  | 0, _, _, _, _ => False
  | n + 1, m5, m7, S, K => ((c4 < m7 → K m5 m7 S) ∧ (¬ c4 < m7 → (ok S c0 0 ∧ (wX0_errorAt c0 c6 m7 S (fun r1 S1 => wX0_seamError_L45 c0 c3 c4 c6 n (if m5 < r1 then r1 else m5) (m7 + (1 : Int32)) S1 K)))))
def wX0_seamError_L35 (c0 : Nat) (c3 : Int32) (c4 : Int32) : Nat → Int32 → Int32 → HS → (Int32 → Int32 → HS → Prop) → Prop
  | 0, _, _, _, _ => False
  | n + 1, m5, m6, S, K => (((8 : Int32) ≤ m6 → K m5 m6 S) ∧ (¬ (8 : Int32) ≤ m6 → (∃ n1 : Nat, wX0_seamError_L45 c0 c3 c4 m6 n1 m5 c3 S (fun u1 u2 S2 => wX0_seamError_L35 c0 c3 c4 n u1 (m6 + (1 : Int32)) S2 K))))
def wX0_seamError (a0 : Nat) (p1 : Option Nat) (p2 : Option Nat) (S : HS) (Q : Int32 → HS → Prop) : Prop := (∃ q1, p1 = some q1 ∧ (ok S q1 3 ∧ (∃ q2, p2 = some q2 ∧ (ok S q2 3 ∧ (ok S q1 3 ∧ (ok S q2 3 ∧ (∃ n2 : Nat, wX0_seamError_L35 a0 (if (gI S 97 q2) < ((gI S 98 q1) - (1 : Int32)) then (gI S 97 q2) else ((gI S 98 q1) - (1 : Int32))) (if ((gI S 98 q1) - (1 : Int32)) < (gI S 97 q2) then (gI S 97 q2) else ((gI S 98 q1) - (1 : Int32))) n2 (0 : Int32) (0 : Int32) S (fun u3 u4 S3 => Q u3 S3))))))))
theorem kF_RX0_31 : Cond.fieldLink RX0 31 RX0 (TX0 0).2.1 (TX0 0).2.2.1 ∈ T0 := T0_mem (i := 282) (by decide +kernel) (by decide +kernel)
theorem inT_0 : ∀ w ∈ u_ws RX0 TX0 8, w ∈ T0 := inT [294, 296, 298, 300, 302, 304, 306, 308] (by decide +kernel) (by decide +kernel)
theorem kF_RX0_23 : Cond.fieldLink RX0 23 RX0 (TX0 5).2.1 (TX0 5).2.2.1 ∈ T0 := T0_mem (i := 289) (by decide +kernel) (by decide +kernel)
theorem kF_RX0_12 : Cond.fieldLink RX0 12 RX0 (TX0 3).2.1 (TX0 3).2.2.1 ∈ T0 := T0_mem (i := 287) (by decide +kernel) (by decide +kernel)
theorem kC_X1_replace : Cond.code yX1_replace cX1_replace 6 (some .int) ∈ T0 := T0_mem (i := 355) (by decide +kernel) (by decide +kernel)
theorem kM_RX0_52 : Cond.methodLink RX0 52 yX1_replace ∈ T0 := T0_mem (i := 352) (by decide +kernel) (by decide +kernel)
theorem hd_X1_replace : yX1_replace.cls ≠ "java/lang/invoke/MethodHandle" ∧ yX1_replace.cls ≠ "java/lang/invoke/VarHandle" ∧ (parseMethodDescriptor yX1_replace.desc).map (fun d => d.parameters.length) = some 3 := by decide +kernel
theorem kO_X1_replace : Cond.instanceMethod yX1_replace ∈ T0 := T0_mem (i := 353) (by decide +kernel) (by decide +kernel)
theorem kV_X1_replace : Cond.selects RX1 yX1_replace yX1_replace ∈ T0 := T0_mem (i := 354) (by decide +kernel) (by decide +kernel)
theorem kC_X1_at : Cond.code yX1_at cX1_at 4 (some .int) ∈ T0 := T0_mem (i := 389) (by decide +kernel) (by decide +kernel)
theorem kM_RX0_56 : Cond.methodLink RX0 56 yX1_at ∈ T0 := T0_mem (i := 386) (by decide +kernel) (by decide +kernel)
theorem hd_X1_at : yX1_at.cls ≠ "java/lang/invoke/MethodHandle" ∧ yX1_at.cls ≠ "java/lang/invoke/VarHandle" ∧ (parseMethodDescriptor yX1_at.desc).map (fun d => d.parameters.length) = some 2 := by decide +kernel
theorem kO_X1_at : Cond.instanceMethod yX1_at ∈ T0 := T0_mem (i := 387) (by decide +kernel) (by decide +kernel)
theorem kV_X1_at : Cond.selects RX1 yX1_at yX1_at ∈ T0 := T0_mem (i := 388) (by decide +kernel) (by decide +kernel)
theorem kC_X3_shareOf : Cond.code yX3_shareOf cX3_shareOf 3 (some .int) ∈ T0 := T0_mem (i := 393) (by decide +kernel) (by decide +kernel)
theorem kI_RX3 : Cond.initialized RX3 ∈ T0 := T0_mem (i := 44) (by decide +kernel) (by decide +kernel)
theorem kM_RX0_59 : Cond.methodLink RX0 59 yX3_shareOf ∈ T0 := T0_mem (i := 390) (by decide +kernel) (by decide +kernel)
theorem hd_X3_shareOf : yX3_shareOf.cls ≠ "java/lang/invoke/MethodHandle" ∧ yX3_shareOf.cls ≠ "java/lang/invoke/VarHandle" ∧ (parseMethodDescriptor yX3_shareOf.desc).map (fun d => d.parameters.length) = some 2 := by decide +kernel
theorem kO_X3_shareOf : Cond.instanceMethod yX3_shareOf ∈ T0 := T0_mem (i := 391) (by decide +kernel) (by decide +kernel)
theorem kV_X3_shareOf : Cond.selects RX3 yX3_shareOf yX3_shareOf ∈ T0 := T0_mem (i := 392) (by decide +kernel) (by decide +kernel)
theorem kF_RX0_62 : Cond.fieldLinkNest RX0 62 RX3 (TX3 6).2.1 (TX3 6).2.2.1 "StitchBanner" ∈ T0 := T0_mem (i := 254) (by decide +kernel) (by decide +kernel)
theorem kF_RX0_65 : Cond.fieldLinkNest RX0 65 RX3 (TX3 5).2.1 (TX3 5).2.2.1 "StitchBanner" ∈ T0 := T0_mem (i := 252) (by decide +kernel) (by decide +kernel)
theorem kF_RX0_18 : Cond.fieldLink RX0 18 RX0 (TX0 4).2.1 (TX0 4).2.2.1 ∈ T0 := T0_mem (i := 288) (by decide +kernel) (by decide +kernel)
theorem kF_RX0_27 : Cond.fieldLink RX0 27 RX0 (TX0 7).2.1 (TX0 7).2.2.1 ∈ T0 := T0_mem (i := 292) (by decide +kernel) (by decide +kernel)
theorem kF_RX0_34 : Cond.fieldLink RX0 34 RX0 (TX0 1).2.1 (TX0 1).2.2.1 ∈ T0 := T0_mem (i := 284) (by decide +kernel) (by decide +kernel)
theorem kM_RX0_40 : Cond.methodLink RX0 40 Lib.Math.min.name ∈ T0 := T0_mem (i := 231) (by decide +kernel) (by decide +kernel)
theorem kC_X0_inkAt : Cond.code yX0_inkAt cX0_inkAt 3 (some .int) ∈ T0 := T0_mem (i := 559) (by decide +kernel) (by decide +kernel)
theorem kI_RX0 : Cond.initialized RX0 ∈ T0 := T0_mem (i := 41) (by decide +kernel) (by decide +kernel)
theorem kM_RX0_66 : Cond.methodLink RX0 66 yX0_inkAt ∈ T0 := T0_mem (i := 600) (by decide +kernel) (by decide +kernel)
theorem hd_X0_inkAt : yX0_inkAt.cls ≠ "java/lang/invoke/MethodHandle" ∧ yX0_inkAt.cls ≠ "java/lang/invoke/VarHandle" ∧ (parseMethodDescriptor yX0_inkAt.desc).map (fun d => d.parameters.length) = some 2 := by decide +kernel
theorem kO_X0_inkAt : Cond.instanceMethod yX0_inkAt ∈ T0 := T0_mem (i := 557) (by decide +kernel) (by decide +kernel)
theorem kV_X0_inkAt : Cond.selects RX0 yX0_inkAt yX0_inkAt ∈ T0 := T0_mem (i := 558) (by decide +kernel) (by decide +kernel)
theorem kM_RX0_69 : Cond.methodLink RX0 69 Lib.Math.abs.name ∈ T0 := T0_mem (i := 601) (by decide +kernel) (by decide +kernel)
theorem kS_math_abs : Cond.static Lib.Math.abs.name ∈ T0 := T0_mem (i := 602) (by decide +kernel) (by decide +kernel)
theorem kC_math_abs : Cond.code Lib.Math.abs.name Lib.Math.abs.code 1 (some .int) ∈ T0 := T0_mem (i := 603) (by decide +kernel) (by decide +kernel)
theorem kC_X0_errorAt : Cond.code yX0_errorAt cX0_errorAt 3 (some .int) ∈ T0 := T0_mem (i := 599) (by decide +kernel) (by decide +kernel)
theorem kM_RX0_73 : Cond.methodLink RX0 73 yX0_errorAt ∈ T0 := T0_mem (i := 596) (by decide +kernel) (by decide +kernel)
theorem hd_X0_errorAt : yX0_errorAt.cls ≠ "java/lang/invoke/MethodHandle" ∧ yX0_errorAt.cls ≠ "java/lang/invoke/VarHandle" ∧ (parseMethodDescriptor yX0_errorAt.desc).map (fun d => d.parameters.length) = some 2 := by decide +kernel
theorem kO_X0_errorAt : Cond.instanceMethod yX0_errorAt ∈ T0 := T0_mem (i := 598) (by decide +kernel) (by decide +kernel)
theorem kV_X0_errorAt : Cond.selects RX0 yX0_errorAt yX0_errorAt ∈ T0 := T0_mem (i := 10) (by decide +kernel) (by decide +kernel)
theorem kF_RX0_76 : Cond.fieldLinkNest RX0 76 RX3 (TX3 2).2.1 (TX3 2).2.2.1 "StitchBanner" ∈ T0 := T0_mem (i := 247) (by decide +kernel) (by decide +kernel)
theorem kF_RX0_79 : Cond.fieldLinkNest RX0 79 RX3 (TX3 1).2.1 (TX3 1).2.2.1 "StitchBanner" ∈ T0 := T0_mem (i := 244) (by decide +kernel) (by decide +kernel)
theorem kM_RX0_82 : Cond.methodLink RX0 82 Lib.Math.max.name ∈ T0 := T0_mem (i := 595) (by decide +kernel) (by decide +kernel)
theorem kS_math_max : Cond.static Lib.Math.max.name ∈ T0 := T0_mem (i := 532) (by decide +kernel) (by decide +kernel)
theorem kC_math_max : Cond.code Lib.Math.max.name Lib.Math.max.code 2 (some .int) ∈ T0 := T0_mem (i := 533) (by decide +kernel) (by decide +kernel)
set_option maxHeartbeats 4000000 in
set_option maxRecDepth 100000 in
theorem met_X0_hasColumn (l : Launch) (a0 : Nat) (x1 : Int32) : MI l yX0_hasColumn cX0_hasColumn 2 (some .boolean) 0 0 0 0 [.ref a0, .int x1] (wX0_hasColumn a0 x1) := by
  refine MI.of (by decide) (Nat.le_of_ble_eq_true rfl) ?_
  intro p e s m below meth c D cs lo S Q ls B hr hlk hin
  intro h hl hw
  replace hl : lv_has ls 2 [(0, .ref a0), (1, .int x1)] := hl
  refine lv_iload_n B.1.1 B.1.2.1 dX0_hasColumn_0 rfl (lv_at hl 1 rfl) ?_
  refine lv_if_lt (tgt := 16) B.1.1 B.1.2.1 dX0_hasColumn_1 (by decide) (fun hc => ?_) (fun hc => ?_)
  · replace hw := hw.1 hc
    refine lv_iconst (v := (0 : Int32)) B.1.1 B.1.2.1 dX0_hasColumn_16 (by decide) ?_
    exact q_zret B hr hlk h (by decide) hw dX0_hasColumn_17 (Nat.le_of_ble_eq_true rfl) (Nat.le_of_ble_eq_true rfl)
  · replace hw := hw.2 hc
    refine lv_iload_n B.1.1 B.1.2.1 dX0_hasColumn_4 rfl (lv_at hl 1 rfl) ?_
    refine lv_aload_n B.1.1 B.1.2.1 dX0_hasColumn_5 rfl (lv_at hl 0 rfl) ?_
    obtain ⟨hok, hw⟩ := hw
    refine q_getI B h (ci := 0) (j := 0) (code := 0) rfl inT_0 (by decide) kF_RX0_31 rfl rfl rfl (by decide) dX0_hasColumn_6 hok.1 hok.2 ?_
    refine lv_icmp_ge (tgt := 16) B.1.1 B.1.2.1 dX0_hasColumn_9 (by decide) (fun hc => ?_) (fun hc => ?_)
    · replace hw := hw.1 hc
      refine lv_iconst (v := (0 : Int32)) B.1.1 B.1.2.1 dX0_hasColumn_16 (by decide) ?_
      exact q_zret B hr hlk h (by decide) hw dX0_hasColumn_17 (Nat.le_of_ble_eq_true rfl) (Nat.le_of_ble_eq_true rfl)
    · replace hw := hw.2 hc
      refine lv_iconst (v := (1 : Int32)) B.1.1 B.1.2.1 dX0_hasColumn_12 (by decide) ?_
      refine lv_goto (tgt := 17) B.1.1 B.1.2.1 dX0_hasColumn_13 (by decide) ?_
      exact q_zret B hr hlk h (by decide) hw dX0_hasColumn_17 (Nat.le_of_ble_eq_true rfl) (Nat.le_of_ble_eq_true rfl)
set_option maxHeartbeats 4000000 in
set_option maxRecDepth 100000 in
theorem met_X0_stripOf (l : Launch) (a0 : Nat) (x1 : Int32) : MO l yX0_stripOf cX0_stripOf 2 (some (.object "StitchBanner$Strip")) 0 0 0 0 [.ref a0, .int x1] (wX0_stripOf a0 x1) := by
  refine MO.of (by decide) (Nat.le_of_ble_eq_true rfl) ?_
  intro p e s m below meth c D cs lo S Q ls B hr hlk hin
  intro h hl hw
  replace hl : lv_has ls 2 [(0, .ref a0), (1, .int x1)] := hl
  refine lv_iload_n B.1.1 B.1.2.1 dX0_stripOf_0 rfl (lv_at hl 1 rfl) ?_
  refine lv_if_lt (tgt := 22) B.1.1 B.1.2.1 dX0_stripOf_1 (by decide) (fun hc => ?_) (fun hc => ?_)
  · replace hw := hw.1 hc
    refine lv_null B.1.1 B.1.2.1 dX0_stripOf_22 ?_
    exact q_aret B (v := none) hr hlk h hw dX0_stripOf_23 (Nat.le_of_ble_eq_true rfl) (Nat.le_of_ble_eq_true rfl)
  · replace hw := hw.2 hc
    refine lv_iload_n B.1.1 B.1.2.1 dX0_stripOf_4 rfl (lv_at hl 1 rfl) ?_
    refine lv_aload_n B.1.1 B.1.2.1 dX0_stripOf_5 rfl (lv_at hl 0 rfl) ?_
    obtain ⟨hok, hw⟩ := hw
    refine q_getR B h (ci := 0) (j := 5) (code := 5) rfl inT_0 (by decide) kF_RX0_23 rfl rfl rfl (by decide) dX0_stripOf_6 hok.1 hok.2 ?_
    obtain ⟨o1, hoo1⟩ : ∃ z, z = gR S 5 a0 := ⟨_, rfl⟩
    rw [← hoo1]
    replace hw := hw o1 hoo1
    obtain ⟨q1, hn, hw⟩ := hw
    subst hn
    replace hl : lv_has ls 2 [(0, .ref a0), (1, .int x1)] := hl
    obtain ⟨hok, hw⟩ := hw
    refine q_alen B h dX0_stripOf_9 hok.1 (by rw [hok.2]; decide) (by rw [hok.2]; decide) ?_
    refine lv_icmp_ge (tgt := 22) B.1.1 B.1.2.1 dX0_stripOf_10 (by decide) (fun hc => ?_) (fun hc => ?_)
    · replace hw := hw.1 hc
      refine lv_null B.1.1 B.1.2.1 dX0_stripOf_22 ?_
      exact q_aret B (v := none) hr hlk h hw dX0_stripOf_23 (Nat.le_of_ble_eq_true rfl) (Nat.le_of_ble_eq_true rfl)
    · replace hw := hw.2 hc
      refine lv_aload_n B.1.1 B.1.2.1 dX0_stripOf_13 rfl (lv_at hl 0 rfl) ?_
      obtain ⟨hok, hw⟩ := hw
      refine q_getR B h (ci := 0) (j := 5) (code := 5) rfl inT_0 (by decide) kF_RX0_23 rfl rfl rfl (by decide) dX0_stripOf_14 hok.1 hok.2 ?_
      obtain ⟨o2, hoo2⟩ : ∃ z, z = gR S 5 a0 := ⟨_, rfl⟩
      rw [← hoo2]
      replace hw := hw o2 hoo2
      refine lv_iload_n B.1.1 B.1.2.1 dX0_stripOf_17 rfl (lv_at hl 1 rfl) ?_
      obtain ⟨q2, hn, hw⟩ := hw
      subst hn
      replace hl : lv_has ls 2 [(0, .ref a0), (1, .int x1)] := hl
      obtain ⟨hok, hin9, hw⟩ := hw
      refine q_aald B h (kd := 10) (by decide) (by decide) rfl dX0_stripOf_18 hok.1 hok.2 hin9 ?_
      obtain ⟨o3, hoo3⟩ : ∃ z, z = gQ S q2 x1.toNatClampNeg := ⟨_, rfl⟩
      rw [← hoo3]
      replace hw := hw o3 hoo3
      refine lv_goto (tgt := 23) B.1.1 B.1.2.1 dX0_stripOf_19 (by decide) ?_
      exact q_aret B (v := o3) hr hlk h hw dX0_stripOf_23 (Nat.le_of_ble_eq_true rfl) (Nat.le_of_ble_eq_true rfl)
set_option maxHeartbeats 4000000 in
set_option maxRecDepth 100000 in
theorem met_X0_setLevels (l : Launch) (a0 : Nat) (x1 : Int32) (x2 : Int32) (x3 : Int32) (x4 : Int32) : MI l yX0_setLevels cX0_setLevels 7 (some .int) 2 47 0 0 [.ref a0, .int x1, .int x2, .int x3, .int x4] (wX0_setLevels a0 x1 x2 x3 x4) := by
  refine MI.of (by decide) (Nat.le_of_ble_eq_true rfl) ?_
  intro p e s m below meth c D cs lo S Q ls B hr hlk hin
  have L6 : ∀ (c0 : Nat) (c1 : Int32) (c3 : Int32) (c4 : Int32) (K : Int32 → Int32 → HS → Prop) (n : Nat) (m5 : Int32) (m6 : Int32) (S : HS) (H : Heap) (locs : List Loc) (ls : Array Slot), Hx D cs lo s S H locs → lv_has ls 7 [(0, .ref c0), (1, .int c1), (3, .int c3), (4, .int c4), (5, .int m5), (6, .int m6)] → wX0_setLevels_L6 c0 c1 c3 c4 n m5 m6 S K → (∀ (m5 : Int32) (m6 : Int32) (S : HS) (H : Heap) (locs : List Loc) (ls : Array Slot), Hx D cs lo s S H locs → lv_has ls 7 [(0, .ref c0), (1, .int c1), (3, .int c3), (4, .int c4), (5, .int m5), (6, .int m6)] → K m5 m6 S → W p l e ({ frames := 2, cells := 0, slots := 0, locals := 47 } : Room) s m [.ref a0, .int x1, .int x2, .int x3, .int x4].toArray below meth c H locs 0 0 (MQ below (va_Qi Q (fun S' t => hp D cs lo S' t.heap) (fun q => lo ≤ q)) [.ref a0, .int x1, .int x2, .int x3, .int x4].toArray s 0 0 (fun q => lo ≤ q)) (F0 m 38 ls [])) → W p l e ({ frames := 2, cells := 0, slots := 0, locals := 47 } : Room) s m [.ref a0, .int x1, .int x2, .int x3, .int x4].toArray below meth c H locs 0 0 (MQ below (va_Qi Q (fun S' t => hp D cs lo S' t.heap) (fun q => lo ≤ q)) [.ref a0, .int x1, .int x2, .int x3, .int x4].toArray s 0 0 (fun q => lo ≤ q)) (F0 m 6 ls []) := by
    intro c0 c1 c3 c4 K n
    induction n with
    | zero => intro m5 m6 S H locs ls h hl hw hk; exact False.elim hw
    | succ n ih =>
      intro m5 m6 S H locs ls h hl hw hk
      refine lv_iload B.1.1 B.1.2.1 dX0_setLevels_6 (lv_at hl 5 rfl) ?_
      refine lv_iload_n B.1.1 B.1.2.1 dX0_setLevels_8 rfl (lv_at hl 2 rfl) ?_
      refine lv_icmp_ge (tgt := 38) B.1.1 B.1.2.1 dX0_setLevels_9 (by decide) (fun hc => ?_) (fun hc => ?_)
      · replace hw := hw.1 hc
        exact hk m5 m6 _ _ _ ls h (lv_sub hl [0, 1, 2, 3, 4, 5] rfl) hw
      · replace hw := hw.2 hc
        refine lv_aload_n B.1.1 B.1.2.1 dX0_setLevels_12 rfl (lv_at hl 0 rfl) ?_
        obtain ⟨hok, hw⟩ := hw
        refine q_getR B h (ci := 0) (j := 3) (code := 3) rfl inT_0 (by decide) kF_RX0_12 rfl rfl rfl (by decide) dX0_setLevels_13 hok.1 hok.2 ?_
        obtain ⟨o1, hoo1⟩ : ∃ z, z = gR S 3 c0 := ⟨_, rfl⟩
        rw [← hoo1]
        replace hw := hw o1 hoo1
        refine lv_iload_n B.1.1 B.1.2.1 dX0_setLevels_16 rfl (lv_at hl 1 rfl) ?_
        refine lv_iload B.1.1 B.1.2.1 dX0_setLevels_17 (lv_at hl 5 rfl) ?_
        refine lv_iload B.1.1 B.1.2.1 dX0_setLevels_19 (lv_at hl 3 rfl) ?_
        obtain ⟨q1, hn, hw⟩ := hw
        subst hn
        replace hl : lv_has ls 7 [(0, .ref c0), (1, .int c1), (3, .int c3), (4, .int c4), (5, .int m5), (6, .int m6)] := hl
        obtain ⟨hok, hw⟩ := hw
        refine q_callIV B h (met_X1_replace l q1 c1 m6 c4) (CB B 3 kC_X1_replace kI_RX1 kM_RX0_52 hd_X1_replace ⟨Nat.le_of_ble_eq_true rfl, Nat.le_of_ble_eq_true rfl⟩) kO_X1_replace kV_X1_replace (ci := 1) rfl (by decide) hok.1 hok.2 (rest := []) rfl rfl hl.1 (Nat.le_of_ble_eq_true rfl) dX0_setLevels_21 ⟨Nat.le_of_ble_eq_true rfl, Nat.le_of_ble_eq_true rfl⟩ hw (fun r1 S1 H locs hw9 h9 => ?_)
        replace hw := hw9
        clear hw9
        replace h := h9
        clear h9
        refine lv_iload B.1.1 B.1.2.1 dX0_setLevels_24 (lv_at hl 3 rfl) ?_
        refine lv_icmp_eq (tgt := 32) B.1.1 B.1.2.1 dX0_setLevels_26 (by decide) (fun hc => ?_) (fun hc => ?_)
        · replace hw := hw.1 hc
          refine lv_iinc (i := 6) (v := (m6 + (1 : Int32))) (lv' := [(6, .int (m6 + (1 : Int32))), (0, .ref c0), (1, .int c1), (3, .int c3), (4, .int c4), (5, .int m5)]) B.1.1 B.1.2.1 dX0_setLevels_32 hl (k := 5) rfl rfl (by decide) rfl (fun ls hl9 => ?_)
          replace hl := hl9
          clear hl9
          refine lv_goto (tgt := 6) B.1.1 B.1.2.1 dX0_setLevels_35 (by decide) ?_
          exact ih m5 (m6 + (1 : Int32)) _ _ _ ls h (lv_sub hl [1, 2, 3, 4, 5, 0] rfl) hw hk
        · replace hw := hw.2 hc
          refine lv_iinc (i := 5) (v := (m5 + (1 : Int32))) (lv' := [(5, .int (m5 + (1 : Int32))), (0, .ref c0), (1, .int c1), (3, .int c3), (4, .int c4), (6, .int m6)]) B.1.1 B.1.2.1 dX0_setLevels_29 hl (k := 4) rfl rfl (by decide) rfl (fun ls hl9 => ?_)
          replace hl := hl9
          clear hl9
          refine lv_iinc (i := 6) (v := (m6 + (1 : Int32))) (lv' := [(6, .int (m6 + (1 : Int32))), (5, .int (m5 + (1 : Int32))), (0, .ref c0), (1, .int c1), (3, .int c3), (4, .int c4)]) B.1.1 B.1.2.1 dX0_setLevels_32 hl (k := 5) rfl rfl (by decide) rfl (fun ls hl9 => ?_)
          replace hl := hl9
          clear hl9
          refine lv_goto (tgt := 6) B.1.1 B.1.2.1 dX0_setLevels_35 (by decide) ?_
          exact ih (m5 + (1 : Int32)) (m6 + (1 : Int32)) _ _ _ ls h (lv_sub hl [2, 3, 4, 5, 1, 0] rfl) hw hk
  intro h hl hw
  replace hl : lv_has ls 7 [(0, .ref a0), (1, .int x1), (2, .int x2), (3, .int x3), (4, .int x4)] := hl
  refine lv_iconst (v := (0 : Int32)) B.1.1 B.1.2.1 dX0_setLevels_0 (by decide) ?_
  refine lv_istore (i := 5) (lv' := [(5, .int (0 : Int32)), (0, .ref a0), (1, .int x1), (2, .int x2), (3, .int x3), (4, .int x4)]) B.1.1 B.1.2.1 dX0_setLevels_1 hl (by decide) rfl (fun ls hl9 => ?_)
  replace hl := hl9
  clear hl9
  refine lv_iload_n B.1.1 B.1.2.1 dX0_setLevels_3 rfl (lv_at hl 3 rfl) ?_
  refine lv_istore (i := 6) (lv' := [(6, .int x2), (5, .int (0 : Int32)), (0, .ref a0), (1, .int x1), (2, .int x2), (3, .int x3), (4, .int x4)]) B.1.1 B.1.2.1 dX0_setLevels_4 hl (by decide) rfl (fun ls hl9 => ?_)
  replace hl := hl9
  clear hl9
  obtain ⟨n1, hw⟩ := hw
  refine L6 a0 x1 x3 x4 _ n1 (0 : Int32) x2 _ _ _ ls h (lv_sub hl [2, 3, 5, 6, 1, 0] rfl) hw (fun u1 u2 S2 H locs ls h9 hl9 hw9 => ?_)
  replace hw := hw9
  clear hw9
  replace h := h9
  clear h9
  replace hl := hl9
  clear hl9
  refine lv_iload B.1.1 B.1.2.1 dX0_setLevels_38 (lv_at hl 4 rfl) ?_
  exact q_iret B hr hlk h hw dX0_setLevels_40 (Nat.le_of_ble_eq_true rfl) (Nat.le_of_ble_eq_true rfl)
set_option maxHeartbeats 4000000 in
set_option maxRecDepth 100000 in
theorem met_X0_share (l : Launch) (a0 : Nat) (p1 : Option Nat) (x2 : Int32) (x3 : Int32) : MI l yX0_share cX0_share 4 (some .int) 2 45 0 0 [.ref a0, va_rf p1, .int x2, .int x3] (wX0_share a0 p1 x2 x3) := by
  refine MI.of (by decide) (by simp [lg_sl, rf_cat, cat_i, cat_r, cat_n, cat_j, cat_f, cat_d]) ?_
  intro p e s m below meth c D cs lo S Q ls B hr hlk hin
  intro h hl hw
  replace hl : lv_has ls 4 [(0, .ref a0), (1, va_rf p1), (2, .int x2), (3, .int x3)] := by simpa [lv_args, rf_cat, cat_i, cat_r, cat_n, cat_j, cat_f, cat_d] using hl
  refine q_aload_n B.1.1 B.1.2.1 dX0_share_0 rfl (lv_at hl 1 rfl) ?_
  refine lv_aload_n B.1.1 B.1.2.1 dX0_share_1 rfl (lv_at hl 0 rfl) ?_
  obtain ⟨hok, hw⟩ := hw
  refine q_getR B h (ci := 0) (j := 3) (code := 3) rfl inT_0 (by decide) kF_RX0_12 rfl rfl rfl (by decide) dX0_share_2 hok.1 hok.2 ?_
  obtain ⟨o1, hoo1⟩ : ∃ z, z = gR S 3 a0 := ⟨_, rfl⟩
  rw [← hoo1]
  replace hw := hw o1 hoo1
  refine lv_iload_n B.1.1 B.1.2.1 dX0_share_5 rfl (lv_at hl 2 rfl) ?_
  refine lv_iload_n B.1.1 B.1.2.1 dX0_share_6 rfl (lv_at hl 3 rfl) ?_
  obtain ⟨q1, hn, hw⟩ := hw
  subst hn
  replace hl : lv_has ls 4 [(0, .ref a0), (1, va_rf p1), (2, .int x2), (3, .int x3)] := hl
  obtain ⟨hok, hw⟩ := hw
  refine q_callIV B h (met_X1_at l q1 x2 x3) (CB B 2 kC_X1_at kI_RX1 kM_RX0_56 hd_X1_at ⟨Nat.le_of_ble_eq_true rfl, Nat.le_of_ble_eq_true rfl⟩) kO_X1_at kV_X1_at (ci := 1) rfl (by decide) hok.1 hok.2 (rest := [va_rf p1]) rfl rfl hl.1 (by simp [rf_cat, cat_i, cat_r, cat_n, cat_j, cat_f, cat_d]) dX0_share_7 ⟨Nat.le_of_ble_eq_true rfl, Nat.le_of_ble_eq_true rfl⟩ hw (fun r1 S1 H locs hw9 h9 => ?_)
  replace hw := hw9
  clear hw9
  replace h := h9
  clear h9
  refine lv_iload_n B.1.1 B.1.2.1 dX0_share_10 rfl (lv_at hl 3 rfl) ?_
  obtain ⟨q2, hn, hw⟩ := hw
  subst hn
  replace hl : lv_has ls 4 [(0, .ref a0), (1, .ref q2), (2, .int x2), (3, .int x3)] := hl
  obtain ⟨hok, hw⟩ := hw
  refine q_callIV B h (met_X3_shareOf l q2 r1 x3) (CB B 2 kC_X3_shareOf kI_RX3 kM_RX0_59 hd_X3_shareOf ⟨Nat.le_of_ble_eq_true rfl, Nat.le_of_ble_eq_true rfl⟩) kO_X3_shareOf kV_X3_shareOf (ci := 3) rfl (by decide) hok.1 hok.2 (rest := []) rfl rfl hl.1 (Nat.le_of_ble_eq_true rfl) dX0_share_11 ⟨Nat.le_of_ble_eq_true rfl, Nat.le_of_ble_eq_true rfl⟩ hw (fun r2 S2 H locs hw9 h9 => ?_)
  replace hw := hw9
  clear hw9
  replace h := h9
  clear h9
  exact q_iret B hr hlk h hw dX0_share_14 (Nat.le_of_ble_eq_true rfl) (Nat.le_of_ble_eq_true rfl)
set_option maxHeartbeats 4000000 in
set_option maxRecDepth 100000 in
theorem met_X0_firstWaitingFor (l : Launch) (a0 : Nat) (x1 : Int32) : MO l yX0_firstWaitingFor cX0_firstWaitingFor 4 (some (.object "StitchBanner$Strip")) 0 0 0 0 [.ref a0, .int x1] (wX0_firstWaitingFor a0 x1) := by
  refine MO.of (by decide) (Nat.le_of_ble_eq_true rfl) ?_
  intro p e s m below meth c D cs lo S Q ls B hr hlk hin
  have L2 : ∀ (c0 : Nat) (c1 : Int32) (K : Int32 → HS → Prop) (n : Nat) (m2 : Int32) (S : HS) (H : Heap) (locs : List Loc) (ls : Array Slot), Hx D cs lo s S H locs → lv_has ls 4 [(0, .ref c0), (1, .int c1), (2, .int m2)] → wX0_firstWaitingFor_L2 c0 c1 Q n m2 S K → (∀ (m2 : Int32) (S : HS) (H : Heap) (locs : List Loc) (ls : Array Slot), Hx D cs lo s S H locs → lv_has ls 4 [(0, .ref c0), (1, .int c1), (2, .int m2)] → K m2 S → W p l e ({ frames := 0, cells := 0, slots := 0, locals := 0 } : Room) s m [.ref a0, .int x1].toArray below meth c H locs 0 0 (MQ below (va_Qq Q (fun S' t => hp D cs lo S' t.heap) (fun q => lo ≤ q)) [.ref a0, .int x1].toArray s 0 0 (fun q => lo ≤ q)) (F0 m 38 ls [])) → W p l e ({ frames := 0, cells := 0, slots := 0, locals := 0 } : Room) s m [.ref a0, .int x1].toArray below meth c H locs 0 0 (MQ below (va_Qq Q (fun S' t => hp D cs lo S' t.heap) (fun q => lo ≤ q)) [.ref a0, .int x1].toArray s 0 0 (fun q => lo ≤ q)) (F0 m 2 ls []) := by
    intro c0 c1 K n
    induction n with
    | zero => intro m2 S H locs ls h hl hw hk; exact False.elim hw
    | succ n ih =>
      intro m2 S H locs ls h hl hw hk
      refine lv_iload_n B.1.1 B.1.2.1 dX0_firstWaitingFor_2 rfl (lv_at hl 2 rfl) ?_
      refine lv_aload_n B.1.1 B.1.2.1 dX0_firstWaitingFor_3 rfl (lv_at hl 0 rfl) ?_
      obtain ⟨hok, hw⟩ := hw
      refine q_getR B h (ci := 0) (j := 5) (code := 5) rfl inT_0 (by decide) kF_RX0_23 rfl rfl rfl (by decide) dX0_firstWaitingFor_4 hok.1 hok.2 ?_
      obtain ⟨o1, hoo1⟩ : ∃ z, z = gR S 5 c0 := ⟨_, rfl⟩
      rw [← hoo1]
      replace hw := hw o1 hoo1
      obtain ⟨q1, hn, hw⟩ := hw
      subst hn
      replace hl : lv_has ls 4 [(0, .ref c0), (1, .int c1), (2, .int m2)] := hl
      obtain ⟨hok, hw⟩ := hw
      refine q_alen B h dX0_firstWaitingFor_7 hok.1 (by rw [hok.2]; decide) (by rw [hok.2]; decide) ?_
      refine lv_icmp_ge (tgt := 38) B.1.1 B.1.2.1 dX0_firstWaitingFor_8 (by decide) (fun hc => ?_) (fun hc => ?_)
      · replace hw := hw.1 hc
        exact hk m2 _ _ _ ls h (lv_sub hl [0, 1, 2] rfl) hw
      · replace hw := hw.2 hc
        refine lv_aload_n B.1.1 B.1.2.1 dX0_firstWaitingFor_11 rfl (lv_at hl 0 rfl) ?_
        obtain ⟨hok, hw⟩ := hw
        refine q_getR B h (ci := 0) (j := 5) (code := 5) rfl inT_0 (by decide) kF_RX0_23 rfl rfl rfl (by decide) dX0_firstWaitingFor_12 hok.1 hok.2 ?_
        obtain ⟨o2, hoo2⟩ : ∃ z, z = gR S 5 c0 := ⟨_, rfl⟩
        rw [← hoo2]
        replace hw := hw o2 hoo2
        refine lv_iload_n B.1.1 B.1.2.1 dX0_firstWaitingFor_15 rfl (lv_at hl 2 rfl) ?_
        obtain ⟨q2, hn, hw⟩ := hw
        subst hn
        replace hl : lv_has ls 4 [(0, .ref c0), (1, .int c1), (2, .int m2)] := hl
        obtain ⟨hok, hin9, hw⟩ := hw
        refine q_aald B h (kd := 10) (by decide) (by decide) rfl dX0_firstWaitingFor_16 hok.1 hok.2 hin9 ?_
        obtain ⟨o3, hoo3⟩ : ∃ z, z = gQ S q2 m2.toNatClampNeg := ⟨_, rfl⟩
        rw [← hoo3]
        replace hw := hw o3 hoo3
        refine q_astore_n (i := 3) (lv' := [(3, va_rf o3), (0, .ref c0), (1, .int c1), (2, .int m2)]) B.1.1 B.1.2.1 dX0_firstWaitingFor_17 rfl hl (by decide) rfl (fun ls hl9 => ?_)
        replace hl := hl9
        clear hl9
        refine q_aload_n B.1.1 B.1.2.1 dX0_firstWaitingFor_18 rfl (lv_at hl 0 rfl) ?_
        refine q_ifnull (tgt := 32) B.1.1 B.1.2.1 dX0_firstWaitingFor_19 (by decide) (fun hn => ?_) (fun q3 hn => ?_)
        · replace hw := hw.1 hn
          subst hn
          replace hl : lv_has ls 4 [(3, .null), (0, .ref c0), (1, .int c1), (2, .int m2)] := hl
          refine lv_iinc (i := 2) (v := (m2 + (1 : Int32))) (lv' := [(2, .int (m2 + (1 : Int32))), (3, .null), (0, .ref c0), (1, .int c1)]) B.1.1 B.1.2.1 dX0_firstWaitingFor_32 hl (k := 3) rfl rfl (by decide) rfl (fun ls hl9 => ?_)
          replace hl := hl9
          clear hl9
          refine lv_goto (tgt := 2) B.1.1 B.1.2.1 dX0_firstWaitingFor_35 (by decide) ?_
          exact ih (m2 + (1 : Int32)) _ _ _ ls h (lv_sub hl [2, 3, 0] rfl) hw hk
        · replace hw := hw.2 q3 hn
          subst hn
          replace hl : lv_has ls 4 [(3, .ref q3), (0, .ref c0), (1, .int c1), (2, .int m2)] := hl
          refine lv_aload_n B.1.1 B.1.2.1 dX0_firstWaitingFor_22 rfl (lv_at hl 0 rfl) ?_
          obtain ⟨hok, hw⟩ := hw
          refine q_getIN B h (ci := 3) (j := 6) (code := 102) rfl inT_3 (by decide) kF_RX0_62 rfl rfl rfl (by decide) dX0_firstWaitingFor_23 hok.1 hok.2 ?_
          refine lv_iload_n B.1.1 B.1.2.1 dX0_firstWaitingFor_26 rfl (lv_at hl 2 rfl) ?_
          refine lv_icmp_ne (tgt := 32) B.1.1 B.1.2.1 dX0_firstWaitingFor_27 (by decide) (fun hc => ?_) (fun hc => ?_)
          · replace hw := hw.1 hc
            refine lv_iinc (i := 2) (v := (m2 + (1 : Int32))) (lv' := [(2, .int (m2 + (1 : Int32))), (3, .ref q3), (0, .ref c0), (1, .int c1)]) B.1.1 B.1.2.1 dX0_firstWaitingFor_32 hl (k := 3) rfl rfl (by decide) rfl (fun ls hl9 => ?_)
            replace hl := hl9
            clear hl9
            refine lv_goto (tgt := 2) B.1.1 B.1.2.1 dX0_firstWaitingFor_35 (by decide) ?_
            exact ih (m2 + (1 : Int32)) _ _ _ ls h (lv_sub hl [2, 3, 0] rfl) hw hk
          · replace hw := hw.2 hc
            refine lv_aload_n B.1.1 B.1.2.1 dX0_firstWaitingFor_30 rfl (lv_at hl 0 rfl) ?_
            exact q_aret B (v := (some q3)) hr hlk h hw dX0_firstWaitingFor_31 (Nat.le_of_ble_eq_true rfl) (Nat.le_of_ble_eq_true rfl)
  intro h hl hw
  replace hl : lv_has ls 4 [(0, .ref a0), (1, .int x1)] := hl
  refine lv_iconst (v := (0 : Int32)) B.1.1 B.1.2.1 dX0_firstWaitingFor_0 (by decide) ?_
  refine lv_istore_n (i := 2) (lv' := [(2, .int (0 : Int32)), (0, .ref a0), (1, .int x1)]) B.1.1 B.1.2.1 dX0_firstWaitingFor_1 rfl hl (by decide) rfl (fun ls hl9 => ?_)
  replace hl := hl9
  clear hl9
  obtain ⟨n1, hw⟩ := hw
  refine L2 a0 x1 _ n1 (0 : Int32) _ _ _ ls h (lv_sub hl [1, 2, 0] rfl) hw (fun u1 S1 H locs ls h9 hl9 hw9 => ?_)
  replace hw := hw9
  clear hw9
  replace h := h9
  clear h9
  replace hl := hl9
  clear hl9
  refine lv_null B.1.1 B.1.2.1 dX0_firstWaitingFor_38 ?_
  exact q_aret B (v := none) hr hlk h hw dX0_firstWaitingFor_39 (Nat.le_of_ble_eq_true rfl) (Nat.le_of_ble_eq_true rfl)
set_option maxHeartbeats 4000000 in
set_option maxRecDepth 100000 in
theorem met_X0_layDot (l : Launch) (a0 : Nat) (p1 : Option Nat) (x2 : Int32) (x3 : Int32) (x4 : Int32) : MV l yX0_layDot cX0_layDot 6 none 2 47 0 0 [.ref a0, va_rf p1, .int x2, .int x3, .int x4] (wX0_layDot a0 p1 x2 x3 x4) := by
  refine MV.of (by decide) (by simp [lg_sl, rf_cat, cat_i, cat_r, cat_n, cat_j, cat_f, cat_d]) ?_
  intro p e s m below meth c D cs lo S Q ls B hr hlk hin
  intro h hl hw
  replace hl : lv_has ls 6 [(0, .ref a0), (1, va_rf p1), (2, .int x2), (3, .int x3), (4, .int x4)] := by simpa [lv_args, rf_cat, cat_i, cat_r, cat_n, cat_j, cat_f, cat_d] using hl
  refine q_aload_n B.1.1 B.1.2.1 dX0_layDot_0 rfl (lv_at hl 1 rfl) ?_
  obtain ⟨q1, hn, hw⟩ := hw
  subst hn
  replace hl : lv_has ls 6 [(0, .ref a0), (1, .ref q1), (2, .int x2), (3, .int x3), (4, .int x4)] := hl
  obtain ⟨hok, hw⟩ := hw
  refine q_getRN B h (ci := 3) (j := 5) (code := 101) rfl inT_3 (by decide) kF_RX0_65 rfl rfl rfl (by decide) dX0_layDot_1 hok.1 hok.2 ?_
  obtain ⟨o1, hoo1⟩ : ∃ z, z = gR S 101 q1 := ⟨_, rfl⟩
  rw [← hoo1]
  replace hw := hw o1 hoo1
  refine lv_iload_n B.1.1 B.1.2.1 dX0_layDot_4 rfl (lv_at hl 2 rfl) ?_
  refine lv_iload_n B.1.1 B.1.2.1 dX0_layDot_5 rfl (lv_at hl 3 rfl) ?_
  refine lv_iload B.1.1 B.1.2.1 dX0_layDot_6 (lv_at hl 4 rfl) ?_
  obtain ⟨q2, hn, hw⟩ := hw
  subst hn
  replace hl : lv_has ls 6 [(0, .ref a0), (1, .ref q1), (2, .int x2), (3, .int x3), (4, .int x4)] := hl
  obtain ⟨hok, hw⟩ := hw
  refine q_callIV B h (met_X1_replace l q2 x2 x3 x4) (CB B 3 kC_X1_replace kI_RX1 kM_RX0_52 hd_X1_replace ⟨Nat.le_of_ble_eq_true rfl, Nat.le_of_ble_eq_true rfl⟩) kO_X1_replace kV_X1_replace (ci := 1) rfl (by decide) hok.1 hok.2 (rest := []) rfl rfl hl.1 (Nat.le_of_ble_eq_true rfl) dX0_layDot_8 ⟨Nat.le_of_ble_eq_true rfl, Nat.le_of_ble_eq_true rfl⟩ hw (fun r1 S1 H locs hw9 h9 => ?_)
  replace hw := hw9
  clear hw9
  replace h := h9
  clear h9
  refine lv_istore (i := 5) (lv' := [(5, .int r1), (0, .ref a0), (1, .ref q1), (2, .int x2), (3, .int x3), (4, .int x4)]) B.1.1 B.1.2.1 dX0_layDot_11 hl (by decide) rfl (fun ls hl9 => ?_)
  replace hl := hl9
  clear hl9
  refine lv_aload_n B.1.1 B.1.2.1 dX0_layDot_13 rfl (lv_at hl 1 rfl) ?_
  obtain ⟨hok, hw⟩ := hw
  refine q_getR B h (ci := 0) (j := 4) (code := 4) rfl inT_0 (by decide) kF_RX0_18 rfl rfl rfl (by decide) dX0_layDot_14 hok.1 hok.2 ?_
  obtain ⟨o2, hoo2⟩ : ∃ z, z = gR S1 4 a0 := ⟨_, rfl⟩
  rw [← hoo2]
  replace hw := hw o2 hoo2
  refine lv_iload_n B.1.1 B.1.2.1 dX0_layDot_17 rfl (lv_at hl 3 rfl) ?_
  refine lv_iload_n B.1.1 B.1.2.1 dX0_layDot_18 rfl (lv_at hl 4 rfl) ?_
  refine lv_aload_n B.1.1 B.1.2.1 dX0_layDot_19 rfl (lv_at hl 1 rfl) ?_
  obtain ⟨hok, hw⟩ := hw
  refine q_getR B h (ci := 0) (j := 4) (code := 4) rfl inT_0 (by decide) kF_RX0_18 rfl rfl rfl (by decide) dX0_layDot_20 hok.1 hok.2 ?_
  obtain ⟨o3, hoo3⟩ : ∃ z, z = gR S1 4 a0 := ⟨_, rfl⟩
  rw [← hoo3]
  replace hw := hw o3 hoo3
  refine lv_iload_n B.1.1 B.1.2.1 dX0_layDot_23 rfl (lv_at hl 3 rfl) ?_
  refine lv_iload_n B.1.1 B.1.2.1 dX0_layDot_24 rfl (lv_at hl 4 rfl) ?_
  obtain ⟨q3, hn, hw⟩ := hw
  subst hn
  replace hl : lv_has ls 6 [(5, .int r1), (0, .ref a0), (1, .ref q1), (2, .int x2), (3, .int x3), (4, .int x4)] := hl
  obtain ⟨hok, hw⟩ := hw
  refine q_callIV B h (met_X1_at l q3 x2 x3) (CB B 2 kC_X1_at kI_RX1 kM_RX0_56 hd_X1_at ⟨Nat.le_of_ble_eq_true rfl, Nat.le_of_ble_eq_true rfl⟩) kO_X1_at kV_X1_at (ci := 1) rfl (by decide) hok.1 hok.2 (rest := [.int x3, .int x2, va_rf o2]) rfl rfl hl.1 (by simp [rf_cat, cat_i, cat_r, cat_n, cat_j, cat_f, cat_d]) dX0_layDot_25 ⟨Nat.le_of_ble_eq_true rfl, Nat.le_of_ble_eq_true rfl⟩ hw (fun r2 S2 H locs hw9 h9 => ?_)
  replace hw := hw9
  clear hw9
  replace h := h9
  clear h9
  refine lv_iload B.1.1 B.1.2.1 dX0_layDot_28 (lv_at hl 0 rfl) ?_
  refine lv_isub B.1.1 B.1.2.1 dX0_layDot_30 ?_
  refine lv_iload B.1.1 B.1.2.1 dX0_layDot_31 (lv_at hl 5 rfl) ?_
  refine lv_iadd B.1.1 B.1.2.1 dX0_layDot_33 ?_
  obtain ⟨q4, hn, hw⟩ := hw
  subst hn
  replace hl : lv_has ls 6 [(5, .int r1), (0, .ref a0), (1, .ref q1), (2, .int x2), (3, .int x3), (4, .int x4)] := hl
  obtain ⟨hok, hw⟩ := hw
  refine q_callIV B h (met_X1_replace l q4 x2 x3 ((r2 - r1) + x4)) (CB B 3 kC_X1_replace kI_RX1 kM_RX0_52 hd_X1_replace ⟨Nat.le_of_ble_eq_true rfl, Nat.le_of_ble_eq_true rfl⟩) kO_X1_replace kV_X1_replace (ci := 1) rfl (by decide) hok.1 hok.2 (rest := []) rfl rfl hl.1 (Nat.le_of_ble_eq_true rfl) dX0_layDot_34 ⟨Nat.le_of_ble_eq_true rfl, Nat.le_of_ble_eq_true rfl⟩ hw (fun r3 S3 H locs hw9 h9 => ?_)
  replace hw := hw9
  clear hw9
  replace h := h9
  clear h9
  refine lv_pop B.1.1 B.1.2.1 dX0_layDot_37 rfl ?_
  refine lv_aload_n B.1.1 B.1.2.1 dX0_layDot_38 rfl (lv_at hl 1 rfl) ?_
  refine lv_dup B.1.1 B.1.2.1 dX0_layDot_39 rfl ?_
  obtain ⟨hok, hw⟩ := hw
  refine q_getI B h (ci := 0) (j := 7) (code := 7) rfl inT_0 (by decide) kF_RX0_27 rfl rfl rfl (by decide) dX0_layDot_40 hok.1 hok.2 ?_
  refine lv_iload B.1.1 B.1.2.1 dX0_layDot_43 (lv_at hl 5 rfl) ?_
  refine lv_iadd B.1.1 B.1.2.1 dX0_layDot_45 ?_
  obtain ⟨hok, hw⟩ := hw
  refine q_putI B h (ci := 0) (j := 7) (code := 7) (v := ((gI S3 7 a0) + x4)) rfl inT_0 tyX0 tyX0_ok nmX0 (by decide) kF_RX0_27 rfl rfl rfl rfl (by decide) (by first | rfl | decide) (by first | rfl | decide) dX0_layDot_46 hok.1 hok.2 (fun H locs h9 => ?_)
  obtain ⟨S4, hS4, hh⟩ : ∃ z, z = sI S3 7 a0 ((gI S3 7 a0) + x4) ∧ Hx D cs lo s z H locs := ⟨_, rfl, h9⟩
  clear h9
  replace h := hh
  clear hh
  replace hw := hw S4 hS4
  exact q_vret B hr hlk h hw dX0_layDot_49 (Nat.le_of_ble_eq_true rfl) (Nat.le_of_ble_eq_true rfl)
set_option maxHeartbeats 4000000 in
set_option maxRecDepth 100000 in
theorem met_X0_inkAt (l : Launch) (a0 : Nat) (x1 : Int32) (x2 : Int32) : MI l yX0_inkAt cX0_inkAt 3 (some .int) 2 45 0 0 [.ref a0, .int x1, .int x2] (wX0_inkAt a0 x1 x2) := by
  refine MI.of (by decide) (Nat.le_of_ble_eq_true rfl) ?_
  intro p e s m below meth c D cs lo S Q ls B hr hlk hin
  intro h hl hw
  replace hl : lv_has ls 3 [(0, .ref a0), (1, .int x1), (2, .int x2)] := hl
  refine lv_aload_n B.1.1 B.1.2.1 dX0_inkAt_0 rfl (lv_at hl 0 rfl) ?_
  obtain ⟨hok, hw⟩ := hw
  refine q_getR B h (ci := 0) (j := 4) (code := 4) rfl inT_0 (by decide) kF_RX0_18 rfl rfl rfl (by decide) dX0_inkAt_1 hok.1 hok.2 ?_
  obtain ⟨o1, hoo1⟩ : ∃ z, z = gR S 4 a0 := ⟨_, rfl⟩
  rw [← hoo1]
  replace hw := hw o1 hoo1
  refine lv_iload_n B.1.1 B.1.2.1 dX0_inkAt_4 rfl (lv_at hl 1 rfl) ?_
  refine lv_iload_n B.1.1 B.1.2.1 dX0_inkAt_5 rfl (lv_at hl 2 rfl) ?_
  obtain ⟨q1, hn, hw⟩ := hw
  subst hn
  replace hl : lv_has ls 3 [(0, .ref a0), (1, .int x1), (2, .int x2)] := hl
  obtain ⟨hok, hw⟩ := hw
  refine q_callIV B h (met_X1_at l q1 x1 x2) (CB B 2 kC_X1_at kI_RX1 kM_RX0_56 hd_X1_at ⟨Nat.le_of_ble_eq_true rfl, Nat.le_of_ble_eq_true rfl⟩) kO_X1_at kV_X1_at (ci := 1) rfl (by decide) hok.1 hok.2 (rest := []) rfl rfl hl.1 (Nat.le_of_ble_eq_true rfl) dX0_inkAt_6 ⟨Nat.le_of_ble_eq_true rfl, Nat.le_of_ble_eq_true rfl⟩ hw (fun r1 S1 H locs hw9 h9 => ?_)
  replace hw := hw9
  clear hw9
  replace h := h9
  clear h9
  refine lv_aload_n B.1.1 B.1.2.1 dX0_inkAt_9 rfl (lv_at hl 0 rfl) ?_
  obtain ⟨hok, hw⟩ := hw
  refine q_getI B h (ci := 0) (j := 1) (code := 1) rfl inT_0 (by decide) kF_RX0_34 rfl rfl rfl (by decide) dX0_inkAt_10 hok.1 hok.2 ?_
  refine q_min B kM_RX0_40 kS_math_min kI_java_lang_Math kC_math_min hl.1 (Nat.le_of_ble_eq_true rfl) (Nat.le_of_ble_eq_true rfl) (Nat.le_of_ble_eq_true rfl) (Nat.le_of_ble_eq_true rfl) dX0_inkAt_13 ?_
  exact q_iret B hr hlk h hw dX0_inkAt_16 (Nat.le_of_ble_eq_true rfl) (Nat.le_of_ble_eq_true rfl)
set_option maxHeartbeats 4000000 in
set_option maxRecDepth 100000 in
theorem met_X0_spiltDots (l : Launch) (a0 : Nat) : MI l yX0_spiltDots cX0_spiltDots 4 (some .int) 2 45 0 0 [.ref a0] (wX0_spiltDots a0) := by
  refine MI.of (by decide) (Nat.le_of_ble_eq_true rfl) ?_
  intro p e s m below meth c D cs lo S Q ls B hr hlk hin
  have L12 : ∀ (c0 : Nat) (c2 : Int32) (K : Int32 → Int32 → HS → Prop) (n : Nat) (m1 : Int32) (m3 : Int32) (S : HS) (H : Heap) (locs : List Loc) (ls : Array Slot), Hx D cs lo s S H locs → lv_has ls 4 [(0, .ref c0), (1, .int m1), (2, .int c2), (3, .int m3)] → wX0_spiltDots_L12 c0 c2 n m1 m3 S K → (∀ (m1 : Int32) (m3 : Int32) (S : HS) (H : Heap) (locs : List Loc) (ls : Array Slot), Hx D cs lo s S H locs → lv_has ls 4 [(0, .ref c0), (1, .int m1), (2, .int c2), (3, .int m3)] → K m1 m3 S → W p l e ({ frames := 2, cells := 0, slots := 0, locals := 45 } : Room) s m [.ref a0].toArray below meth c H locs 0 0 (MQ below (va_Qi Q (fun S' t => hp D cs lo S' t.heap) (fun q => lo ≤ q)) [.ref a0].toArray s 0 0 (fun q => lo ≤ q)) (F0 m 45 ls [])) → W p l e ({ frames := 2, cells := 0, slots := 0, locals := 45 } : Room) s m [.ref a0].toArray below meth c H locs 0 0 (MQ below (va_Qi Q (fun S' t => hp D cs lo S' t.heap) (fun q => lo ≤ q)) [.ref a0].toArray s 0 0 (fun q => lo ≤ q)) (F0 m 12 ls []) := by
    intro c0 c2 K n
    induction n with
    | zero => intro m1 m3 S H locs ls h hl hw hk; exact False.elim hw
    | succ n ih =>
      intro m1 m3 S H locs ls h hl hw hk
      refine lv_iload_n B.1.1 B.1.2.1 dX0_spiltDots_12 rfl (lv_at hl 3 rfl) ?_
      refine lv_aload_n B.1.1 B.1.2.1 dX0_spiltDots_13 rfl (lv_at hl 0 rfl) ?_
      obtain ⟨hok, hw⟩ := hw
      refine q_getI B h (ci := 0) (j := 0) (code := 0) rfl inT_0 (by decide) kF_RX0_31 rfl rfl rfl (by decide) dX0_spiltDots_14 hok.1 hok.2 ?_
      refine lv_icmp_ge (tgt := 45) B.1.1 B.1.2.1 dX0_spiltDots_17 (by decide) (fun hc => ?_) (fun hc => ?_)
      · replace hw := hw.1 hc
        exact hk m1 m3 _ _ _ ls h (lv_sub hl [0, 1, 2, 3] rfl) hw
      · replace hw := hw.2 hc
        refine lv_aload_n B.1.1 B.1.2.1 dX0_spiltDots_20 rfl (lv_at hl 0 rfl) ?_
        obtain ⟨hok, hw⟩ := hw
        refine q_getR B h (ci := 0) (j := 4) (code := 4) rfl inT_0 (by decide) kF_RX0_18 rfl rfl rfl (by decide) dX0_spiltDots_21 hok.1 hok.2 ?_
        obtain ⟨o1, hoo1⟩ : ∃ z, z = gR S 4 c0 := ⟨_, rfl⟩
        rw [← hoo1]
        replace hw := hw o1 hoo1
        refine lv_iload_n B.1.1 B.1.2.1 dX0_spiltDots_24 rfl (lv_at hl 2 rfl) ?_
        refine lv_iload_n B.1.1 B.1.2.1 dX0_spiltDots_25 rfl (lv_at hl 3 rfl) ?_
        obtain ⟨q1, hn, hw⟩ := hw
        subst hn
        replace hl : lv_has ls 4 [(0, .ref c0), (1, .int m1), (2, .int c2), (3, .int m3)] := hl
        obtain ⟨hok, hw⟩ := hw
        refine q_callIV B h (met_X1_at l q1 c2 m3) (CB B 2 kC_X1_at kI_RX1 kM_RX0_56 hd_X1_at ⟨Nat.le_of_ble_eq_true rfl, Nat.le_of_ble_eq_true rfl⟩) kO_X1_at kV_X1_at (ci := 1) rfl (by decide) hok.1 hok.2 (rest := []) rfl rfl hl.1 (Nat.le_of_ble_eq_true rfl) dX0_spiltDots_26 ⟨Nat.le_of_ble_eq_true rfl, Nat.le_of_ble_eq_true rfl⟩ hw (fun r1 S1 H locs hw9 h9 => ?_)
        replace hw := hw9
        clear hw9
        replace h := h9
        clear h9
        refine lv_aload_n B.1.1 B.1.2.1 dX0_spiltDots_29 rfl (lv_at hl 0 rfl) ?_
        obtain ⟨hok, hw⟩ := hw
        refine q_getI B h (ci := 0) (j := 1) (code := 1) rfl inT_0 (by decide) kF_RX0_34 rfl rfl rfl (by decide) dX0_spiltDots_30 hok.1 hok.2 ?_
        refine lv_icmp_le (tgt := 39) B.1.1 B.1.2.1 dX0_spiltDots_33 (by decide) (fun hc => ?_) (fun hc => ?_)
        · replace hw := hw.1 hc
          refine lv_iinc (i := 3) (v := (m3 + (1 : Int32))) (lv' := [(3, .int (m3 + (1 : Int32))), (0, .ref c0), (1, .int m1), (2, .int c2)]) B.1.1 B.1.2.1 dX0_spiltDots_39 hl (k := 3) rfl rfl (by decide) rfl (fun ls hl9 => ?_)
          replace hl := hl9
          clear hl9
          refine lv_goto (tgt := 12) B.1.1 B.1.2.1 dX0_spiltDots_42 (by decide) ?_
          exact ih m1 (m3 + (1 : Int32)) _ _ _ ls h (lv_sub hl [1, 2, 3, 0] rfl) hw hk
        · replace hw := hw.2 hc
          refine lv_iinc (i := 1) (v := (m1 + (1 : Int32))) (lv' := [(1, .int (m1 + (1 : Int32))), (0, .ref c0), (2, .int c2), (3, .int m3)]) B.1.1 B.1.2.1 dX0_spiltDots_36 hl (k := 1) rfl rfl (by decide) rfl (fun ls hl9 => ?_)
          replace hl := hl9
          clear hl9
          refine lv_iinc (i := 3) (v := (m3 + (1 : Int32))) (lv' := [(3, .int (m3 + (1 : Int32))), (1, .int (m1 + (1 : Int32))), (0, .ref c0), (2, .int c2)]) B.1.1 B.1.2.1 dX0_spiltDots_39 hl (k := 3) rfl rfl (by decide) rfl (fun ls hl9 => ?_)
          replace hl := hl9
          clear hl9
          refine lv_goto (tgt := 12) B.1.1 B.1.2.1 dX0_spiltDots_42 (by decide) ?_
          exact ih (m1 + (1 : Int32)) (m3 + (1 : Int32)) _ _ _ ls h (lv_sub hl [2, 1, 3, 0] rfl) hw hk
  have L4 : ∀ (c0 : Nat) (K : Int32 → Int32 → HS → Prop) (n : Nat) (m1 : Int32) (m2 : Int32) (S : HS) (H : Heap) (locs : List Loc) (ls : Array Slot), Hx D cs lo s S H locs → lv_has ls 4 [(0, .ref c0), (1, .int m1), (2, .int m2)] → wX0_spiltDots_L4 c0 n m1 m2 S K → (∀ (m1 : Int32) (m2 : Int32) (S : HS) (H : Heap) (locs : List Loc) (ls : Array Slot), Hx D cs lo s S H locs → lv_has ls 4 [(0, .ref c0), (1, .int m1), (2, .int m2)] → K m1 m2 S → W p l e ({ frames := 2, cells := 0, slots := 0, locals := 45 } : Room) s m [.ref a0].toArray below meth c H locs 0 0 (MQ below (va_Qi Q (fun S' t => hp D cs lo S' t.heap) (fun q => lo ≤ q)) [.ref a0].toArray s 0 0 (fun q => lo ≤ q)) (F0 m 51 ls [])) → W p l e ({ frames := 2, cells := 0, slots := 0, locals := 45 } : Room) s m [.ref a0].toArray below meth c H locs 0 0 (MQ below (va_Qi Q (fun S' t => hp D cs lo S' t.heap) (fun q => lo ≤ q)) [.ref a0].toArray s 0 0 (fun q => lo ≤ q)) (F0 m 4 ls []) := by
    intro c0 K n
    induction n with
    | zero => intro m1 m2 S H locs ls h hl hw hk; exact False.elim hw
    | succ n ih =>
      intro m1 m2 S H locs ls h hl hw hk
      refine lv_iload_n B.1.1 B.1.2.1 dX0_spiltDots_4 rfl (lv_at hl 2 rfl) ?_
      refine lv_bipush (v := (8 : Int32)) B.1.1 B.1.2.1 dX0_spiltDots_5 (by decide) ?_
      refine lv_icmp_ge (tgt := 51) B.1.1 B.1.2.1 dX0_spiltDots_7 (by decide) (fun hc => ?_) (fun hc => ?_)
      · replace hw := hw.1 hc
        exact hk m1 m2 _ _ _ ls h (lv_sub hl [0, 1, 2] rfl) hw
      · replace hw := hw.2 hc
        refine lv_iconst (v := (0 : Int32)) B.1.1 B.1.2.1 dX0_spiltDots_10 (by decide) ?_
        refine lv_istore_n (i := 3) (lv' := [(3, .int (0 : Int32)), (0, .ref c0), (1, .int m1), (2, .int m2)]) B.1.1 B.1.2.1 dX0_spiltDots_11 rfl hl (by decide) rfl (fun ls hl9 => ?_)
        replace hl := hl9
        clear hl9
        obtain ⟨n1, hw⟩ := hw
        refine L12 c0 m2 _ n1 m1 (0 : Int32) _ _ _ ls h (lv_sub hl [1, 2, 3, 0] rfl) hw (fun u1 u2 S2 H locs ls h9 hl9 hw9 => ?_)
        replace hw := hw9
        clear hw9
        replace h := h9
        clear h9
        replace hl := hl9
        clear hl9
        refine lv_iinc (i := 2) (v := (m2 + (1 : Int32))) (lv' := [(2, .int (m2 + (1 : Int32))), (0, .ref c0), (1, .int u1), (3, .int u2)]) B.1.1 B.1.2.1 dX0_spiltDots_45 hl (k := 2) rfl rfl (by decide) rfl (fun ls hl9 => ?_)
        replace hl := hl9
        clear hl9
        refine lv_goto (tgt := 4) B.1.1 B.1.2.1 dX0_spiltDots_48 (by decide) ?_
        exact ih u1 (m2 + (1 : Int32)) _ _ _ ls h (lv_sub hl [1, 2, 0] rfl) hw hk
  intro h hl hw
  replace hl : lv_has ls 4 [(0, .ref a0)] := hl
  refine lv_iconst (v := (0 : Int32)) B.1.1 B.1.2.1 dX0_spiltDots_0 (by decide) ?_
  refine lv_istore_n (i := 1) (lv' := [(1, .int (0 : Int32)), (0, .ref a0)]) B.1.1 B.1.2.1 dX0_spiltDots_1 rfl hl (by decide) rfl (fun ls hl9 => ?_)
  replace hl := hl9
  clear hl9
  refine lv_iconst (v := (0 : Int32)) B.1.1 B.1.2.1 dX0_spiltDots_2 (by decide) ?_
  refine lv_istore_n (i := 2) (lv' := [(2, .int (0 : Int32)), (1, .int (0 : Int32)), (0, .ref a0)]) B.1.1 B.1.2.1 dX0_spiltDots_3 rfl hl (by decide) rfl (fun ls hl9 => ?_)
  replace hl := hl9
  clear hl9
  obtain ⟨n2, hw⟩ := hw
  refine L4 a0 _ n2 (0 : Int32) (0 : Int32) _ _ _ ls h (lv_sub hl [2, 1, 0] rfl) hw (fun u3 u4 S3 H locs ls h9 hl9 hw9 => ?_)
  replace hw := hw9
  clear hw9
  replace h := h9
  clear h9
  replace hl := hl9
  clear hl9
  refine lv_iload_n B.1.1 B.1.2.1 dX0_spiltDots_51 rfl (lv_at hl 1 rfl) ?_
  exact q_iret B hr hlk h hw dX0_spiltDots_52 (Nat.le_of_ble_eq_true rfl) (Nat.le_of_ble_eq_true rfl)
set_option maxHeartbeats 4000000 in
set_option maxRecDepth 100000 in
theorem met_X0_errorAt (l : Launch) (a0 : Nat) (x1 : Int32) (x2 : Int32) : MI l yX0_errorAt cX0_errorAt 3 (some .int) 3 67 0 0 [.ref a0, .int x1, .int x2] (wX0_errorAt a0 x1 x2) := by
  refine MI.of (by decide) (Nat.le_of_ble_eq_true rfl) ?_
  intro p e s m below meth c D cs lo S Q ls B hr hlk hin
  intro h hl hw
  replace hl : lv_has ls 3 [(0, .ref a0), (1, .int x1), (2, .int x2)] := hl
  refine lv_aload_n B.1.1 B.1.2.1 dX0_errorAt_0 rfl (lv_at hl 0 rfl) ?_
  refine lv_iload_n B.1.1 B.1.2.1 dX0_errorAt_1 rfl (lv_at hl 1 rfl) ?_
  refine lv_iload_n B.1.1 B.1.2.1 dX0_errorAt_2 rfl (lv_at hl 2 rfl) ?_
  obtain ⟨hok, hw⟩ := hw
  refine q_callIV B h (met_X0_inkAt l a0 x1 x2) (CB B 2 kC_X0_inkAt kI_RX0 kM_RX0_66 hd_X0_inkAt ⟨Nat.le_of_ble_eq_true rfl, Nat.le_of_ble_eq_true rfl⟩) kO_X0_inkAt kV_X0_inkAt (ci := 0) rfl (by decide) hok.1 hok.2 (rest := []) rfl rfl hl.1 (Nat.le_of_ble_eq_true rfl) dX0_errorAt_3 ⟨Nat.le_of_ble_eq_true rfl, Nat.le_of_ble_eq_true rfl⟩ hw (fun r1 S1 H locs hw9 h9 => ?_)
  replace hw := hw9
  clear hw9
  replace h := h9
  clear h9
  refine lv_aload_n B.1.1 B.1.2.1 dX0_errorAt_6 rfl (lv_at hl 0 rfl) ?_
  obtain ⟨hok, hw⟩ := hw
  refine q_getR B h (ci := 0) (j := 3) (code := 3) rfl inT_0 (by decide) kF_RX0_12 rfl rfl rfl (by decide) dX0_errorAt_7 hok.1 hok.2 ?_
  obtain ⟨o1, hoo1⟩ : ∃ z, z = gR S1 3 a0 := ⟨_, rfl⟩
  rw [← hoo1]
  replace hw := hw o1 hoo1
  refine lv_iload_n B.1.1 B.1.2.1 dX0_errorAt_10 rfl (lv_at hl 1 rfl) ?_
  refine lv_iload_n B.1.1 B.1.2.1 dX0_errorAt_11 rfl (lv_at hl 2 rfl) ?_
  obtain ⟨q1, hn, hw⟩ := hw
  subst hn
  replace hl : lv_has ls 3 [(0, .ref a0), (1, .int x1), (2, .int x2)] := hl
  obtain ⟨hok, hw⟩ := hw
  refine q_callIV B h (met_X1_at l q1 x1 x2) (CB B 2 kC_X1_at kI_RX1 kM_RX0_56 hd_X1_at ⟨Nat.le_of_ble_eq_true rfl, Nat.le_of_ble_eq_true rfl⟩) kO_X1_at kV_X1_at (ci := 1) rfl (by decide) hok.1 hok.2 (rest := [.int r1]) rfl rfl hl.1 (Nat.le_of_ble_eq_true rfl) dX0_errorAt_12 ⟨Nat.le_of_ble_eq_true rfl, Nat.le_of_ble_eq_true rfl⟩ hw (fun r2 S2 H locs hw9 h9 => ?_)
  replace hw := hw9
  clear hw9
  replace h := h9
  clear h9
  refine lv_isub B.1.1 B.1.2.1 dX0_errorAt_15 ?_
  refine q_abs B kM_RX0_69 kS_math_abs kI_java_lang_Math kC_math_abs hl.1 (Nat.le_of_ble_eq_true rfl) (Nat.le_of_ble_eq_true rfl) (Nat.le_of_ble_eq_true rfl) (Nat.le_of_ble_eq_true rfl) dX0_errorAt_16 ?_
  exact q_iret B hr hlk h hw dX0_errorAt_19 (Nat.le_of_ble_eq_true rfl) (Nat.le_of_ble_eq_true rfl)
set_option maxHeartbeats 4000000 in
set_option maxRecDepth 100000 in
theorem met_X0_errorSum (l : Launch) (a0 : Nat) : MI l yX0_errorSum cX0_errorSum 4 (some .int) 4 89 0 0 [.ref a0] (wX0_errorSum a0) := by
  refine MI.of (by decide) (Nat.le_of_ble_eq_true rfl) ?_
  intro p e s m below meth c D cs lo S Q ls B hr hlk hin
  have L12 : ∀ (c0 : Nat) (c2 : Int32) (K : Int32 → Int32 → HS → Prop) (n : Nat) (m1 : Int32) (m3 : Int32) (S : HS) (H : Heap) (locs : List Loc) (ls : Array Slot), Hx D cs lo s S H locs → lv_has ls 4 [(0, .ref c0), (1, .int m1), (2, .int c2), (3, .int m3)] → wX0_errorSum_L12 c0 c2 n m1 m3 S K → (∀ (m1 : Int32) (m3 : Int32) (S : HS) (H : Heap) (locs : List Loc) (ls : Array Slot), Hx D cs lo s S H locs → lv_has ls 4 [(0, .ref c0), (1, .int m1), (2, .int c2), (3, .int m3)] → K m1 m3 S → W p l e ({ frames := 4, cells := 0, slots := 0, locals := 89 } : Room) s m [.ref a0].toArray below meth c H locs 0 0 (MQ below (va_Qi Q (fun S' t => hp D cs lo S' t.heap) (fun q => lo ≤ q)) [.ref a0].toArray s 0 0 (fun q => lo ≤ q)) (F0 m 35 ls [])) → W p l e ({ frames := 4, cells := 0, slots := 0, locals := 89 } : Room) s m [.ref a0].toArray below meth c H locs 0 0 (MQ below (va_Qi Q (fun S' t => hp D cs lo S' t.heap) (fun q => lo ≤ q)) [.ref a0].toArray s 0 0 (fun q => lo ≤ q)) (F0 m 12 ls []) := by
    intro c0 c2 K n
    induction n with
    | zero => intro m1 m3 S H locs ls h hl hw hk; exact False.elim hw
    | succ n ih =>
      intro m1 m3 S H locs ls h hl hw hk
      refine lv_iload_n B.1.1 B.1.2.1 dX0_errorSum_12 rfl (lv_at hl 3 rfl) ?_
      refine lv_aload_n B.1.1 B.1.2.1 dX0_errorSum_13 rfl (lv_at hl 0 rfl) ?_
      obtain ⟨hok, hw⟩ := hw
      refine q_getI B h (ci := 0) (j := 0) (code := 0) rfl inT_0 (by decide) kF_RX0_31 rfl rfl rfl (by decide) dX0_errorSum_14 hok.1 hok.2 ?_
      refine lv_icmp_ge (tgt := 35) B.1.1 B.1.2.1 dX0_errorSum_17 (by decide) (fun hc => ?_) (fun hc => ?_)
      · replace hw := hw.1 hc
        exact hk m1 m3 _ _ _ ls h (lv_sub hl [0, 1, 2, 3] rfl) hw
      · replace hw := hw.2 hc
        refine lv_iload_n B.1.1 B.1.2.1 dX0_errorSum_20 rfl (lv_at hl 1 rfl) ?_
        refine lv_aload_n B.1.1 B.1.2.1 dX0_errorSum_21 rfl (lv_at hl 0 rfl) ?_
        refine lv_iload_n B.1.1 B.1.2.1 dX0_errorSum_22 rfl (lv_at hl 2 rfl) ?_
        refine lv_iload_n B.1.1 B.1.2.1 dX0_errorSum_23 rfl (lv_at hl 3 rfl) ?_
        obtain ⟨hok, hw⟩ := hw
        refine q_callIV B h (met_X0_errorAt l c0 c2 m3) (CB B 2 kC_X0_errorAt kI_RX0 kM_RX0_73 hd_X0_errorAt ⟨Nat.le_of_ble_eq_true rfl, Nat.le_of_ble_eq_true rfl⟩) kO_X0_errorAt kV_X0_errorAt (ci := 0) rfl (by decide) hok.1 hok.2 (rest := [.int m1]) rfl rfl hl.1 (Nat.le_of_ble_eq_true rfl) dX0_errorSum_24 ⟨Nat.le_of_ble_eq_true rfl, Nat.le_of_ble_eq_true rfl⟩ hw (fun r1 S1 H locs hw9 h9 => ?_)
        replace hw := hw9
        clear hw9
        replace h := h9
        clear h9
        refine lv_iadd B.1.1 B.1.2.1 dX0_errorSum_27 ?_
        refine lv_istore_n (i := 1) (lv' := [(1, .int (m1 + r1)), (0, .ref c0), (2, .int c2), (3, .int m3)]) B.1.1 B.1.2.1 dX0_errorSum_28 rfl hl (by decide) rfl (fun ls hl9 => ?_)
        replace hl := hl9
        clear hl9
        refine lv_iinc (i := 3) (v := (m3 + (1 : Int32))) (lv' := [(3, .int (m3 + (1 : Int32))), (1, .int (m1 + r1)), (0, .ref c0), (2, .int c2)]) B.1.1 B.1.2.1 dX0_errorSum_29 hl (k := 3) rfl rfl (by decide) rfl (fun ls hl9 => ?_)
        replace hl := hl9
        clear hl9
        refine lv_goto (tgt := 12) B.1.1 B.1.2.1 dX0_errorSum_32 (by decide) ?_
        exact ih (m1 + r1) (m3 + (1 : Int32)) _ _ _ ls h (lv_sub hl [2, 1, 3, 0] rfl) hw hk
  have L4 : ∀ (c0 : Nat) (K : Int32 → Int32 → HS → Prop) (n : Nat) (m1 : Int32) (m2 : Int32) (S : HS) (H : Heap) (locs : List Loc) (ls : Array Slot), Hx D cs lo s S H locs → lv_has ls 4 [(0, .ref c0), (1, .int m1), (2, .int m2)] → wX0_errorSum_L4 c0 n m1 m2 S K → (∀ (m1 : Int32) (m2 : Int32) (S : HS) (H : Heap) (locs : List Loc) (ls : Array Slot), Hx D cs lo s S H locs → lv_has ls 4 [(0, .ref c0), (1, .int m1), (2, .int m2)] → K m1 m2 S → W p l e ({ frames := 4, cells := 0, slots := 0, locals := 89 } : Room) s m [.ref a0].toArray below meth c H locs 0 0 (MQ below (va_Qi Q (fun S' t => hp D cs lo S' t.heap) (fun q => lo ≤ q)) [.ref a0].toArray s 0 0 (fun q => lo ≤ q)) (F0 m 41 ls [])) → W p l e ({ frames := 4, cells := 0, slots := 0, locals := 89 } : Room) s m [.ref a0].toArray below meth c H locs 0 0 (MQ below (va_Qi Q (fun S' t => hp D cs lo S' t.heap) (fun q => lo ≤ q)) [.ref a0].toArray s 0 0 (fun q => lo ≤ q)) (F0 m 4 ls []) := by
    intro c0 K n
    induction n with
    | zero => intro m1 m2 S H locs ls h hl hw hk; exact False.elim hw
    | succ n ih =>
      intro m1 m2 S H locs ls h hl hw hk
      refine lv_iload_n B.1.1 B.1.2.1 dX0_errorSum_4 rfl (lv_at hl 2 rfl) ?_
      refine lv_bipush (v := (8 : Int32)) B.1.1 B.1.2.1 dX0_errorSum_5 (by decide) ?_
      refine lv_icmp_ge (tgt := 41) B.1.1 B.1.2.1 dX0_errorSum_7 (by decide) (fun hc => ?_) (fun hc => ?_)
      · replace hw := hw.1 hc
        exact hk m1 m2 _ _ _ ls h (lv_sub hl [0, 1, 2] rfl) hw
      · replace hw := hw.2 hc
        refine lv_iconst (v := (0 : Int32)) B.1.1 B.1.2.1 dX0_errorSum_10 (by decide) ?_
        refine lv_istore_n (i := 3) (lv' := [(3, .int (0 : Int32)), (0, .ref c0), (1, .int m1), (2, .int m2)]) B.1.1 B.1.2.1 dX0_errorSum_11 rfl hl (by decide) rfl (fun ls hl9 => ?_)
        replace hl := hl9
        clear hl9
        obtain ⟨n1, hw⟩ := hw
        refine L12 c0 m2 _ n1 m1 (0 : Int32) _ _ _ ls h (lv_sub hl [1, 2, 3, 0] rfl) hw (fun u1 u2 S2 H locs ls h9 hl9 hw9 => ?_)
        replace hw := hw9
        clear hw9
        replace h := h9
        clear h9
        replace hl := hl9
        clear hl9
        refine lv_iinc (i := 2) (v := (m2 + (1 : Int32))) (lv' := [(2, .int (m2 + (1 : Int32))), (0, .ref c0), (1, .int u1), (3, .int u2)]) B.1.1 B.1.2.1 dX0_errorSum_35 hl (k := 2) rfl rfl (by decide) rfl (fun ls hl9 => ?_)
        replace hl := hl9
        clear hl9
        refine lv_goto (tgt := 4) B.1.1 B.1.2.1 dX0_errorSum_38 (by decide) ?_
        exact ih u1 (m2 + (1 : Int32)) _ _ _ ls h (lv_sub hl [1, 2, 0] rfl) hw hk
  intro h hl hw
  replace hl : lv_has ls 4 [(0, .ref a0)] := hl
  refine lv_iconst (v := (0 : Int32)) B.1.1 B.1.2.1 dX0_errorSum_0 (by decide) ?_
  refine lv_istore_n (i := 1) (lv' := [(1, .int (0 : Int32)), (0, .ref a0)]) B.1.1 B.1.2.1 dX0_errorSum_1 rfl hl (by decide) rfl (fun ls hl9 => ?_)
  replace hl := hl9
  clear hl9
  refine lv_iconst (v := (0 : Int32)) B.1.1 B.1.2.1 dX0_errorSum_2 (by decide) ?_
  refine lv_istore_n (i := 2) (lv' := [(2, .int (0 : Int32)), (1, .int (0 : Int32)), (0, .ref a0)]) B.1.1 B.1.2.1 dX0_errorSum_3 rfl hl (by decide) rfl (fun ls hl9 => ?_)
  replace hl := hl9
  clear hl9
  obtain ⟨n2, hw⟩ := hw
  refine L4 a0 _ n2 (0 : Int32) (0 : Int32) _ _ _ ls h (lv_sub hl [2, 1, 0] rfl) hw (fun u3 u4 S3 H locs ls h9 hl9 hw9 => ?_)
  replace hw := hw9
  clear hw9
  replace h := h9
  clear h9
  replace hl := hl9
  clear hl9
  refine lv_iload_n B.1.1 B.1.2.1 dX0_errorSum_41 rfl (lv_at hl 1 rfl) ?_
  exact q_iret B hr hlk h hw dX0_errorSum_42 (Nat.le_of_ble_eq_true rfl) (Nat.le_of_ble_eq_true rfl)
set_option maxHeartbeats 4000000 in
set_option maxRecDepth 100000 in
theorem met_X0_seamError (l : Launch) (a0 : Nat) (p1 : Option Nat) (p2 : Option Nat) : MI l yX0_seamError cX0_seamError 8 (some .int) 4 89 0 0 [.ref a0, va_rf p1, va_rf p2] (wX0_seamError a0 p1 p2) := by
  refine MI.of (by decide) (by simp [lg_sl, rf_cat, cat_i, cat_r, cat_n, cat_j, cat_f, cat_d]) ?_
  intro p e s m below meth c D cs lo S Q ls B hr hlk hin
  have L45 : ∀ (c0 : Nat) (c3 : Int32) (c4 : Int32) (c6 : Int32) (K : Int32 → Int32 → HS → Prop) (n : Nat) (m5 : Int32) (m7 : Int32) (S : HS) (H : Heap) (locs : List Loc) (ls : Array Slot), Hx D cs lo s S H locs → lv_has ls 8 [(0, .ref c0), (3, .int c3), (4, .int c4), (5, .int m5), (6, .int c6), (7, .int m7)] → wX0_seamError_L45 c0 c3 c4 c6 n m5 m7 S K → (∀ (m5 : Int32) (m7 : Int32) (S : HS) (H : Heap) (locs : List Loc) (ls : Array Slot), Hx D cs lo s S H locs → lv_has ls 8 [(0, .ref c0), (3, .int c3), (4, .int c4), (5, .int m5), (6, .int c6), (7, .int m7)] → K m5 m7 S → W p l e ({ frames := 4, cells := 0, slots := 0, locals := 89 } : Room) s m [.ref a0, va_rf p1, va_rf p2].toArray below meth c H locs 0 0 (MQ below (va_Qi Q (fun S' t => hp D cs lo S' t.heap) (fun q => lo ≤ q)) [.ref a0, va_rf p1, va_rf p2].toArray s 0 0 (fun q => lo ≤ q)) (F0 m 73 ls [])) → W p l e ({ frames := 4, cells := 0, slots := 0, locals := 89 } : Room) s m [.ref a0, va_rf p1, va_rf p2].toArray below meth c H locs 0 0 (MQ below (va_Qi Q (fun S' t => hp D cs lo S' t.heap) (fun q => lo ≤ q)) [.ref a0, va_rf p1, va_rf p2].toArray s 0 0 (fun q => lo ≤ q)) (F0 m 45 ls []) := by
    intro c0 c3 c4 c6 K n
    induction n with
    | zero => intro m5 m7 S H locs ls h hl hw hk; exact False.elim hw
    | succ n ih =>
      intro m5 m7 S H locs ls h hl hw hk
      refine lv_iload B.1.1 B.1.2.1 dX0_seamError_45 (lv_at hl 5 rfl) ?_
      refine lv_iload B.1.1 B.1.2.1 dX0_seamError_47 (lv_at hl 2 rfl) ?_
      refine lv_icmp_gt (tgt := 73) B.1.1 B.1.2.1 dX0_seamError_49 (by decide) (fun hc => ?_) (fun hc => ?_)
      · replace hw := hw.1 hc
        exact hk m5 m7 _ _ _ ls h (lv_sub hl [0, 1, 2, 3, 4, 5] rfl) hw
      · replace hw := hw.2 hc
        refine lv_iload B.1.1 B.1.2.1 dX0_seamError_52 (lv_at hl 3 rfl) ?_
        refine lv_aload_n B.1.1 B.1.2.1 dX0_seamError_54 rfl (lv_at hl 0 rfl) ?_
        refine lv_iload B.1.1 B.1.2.1 dX0_seamError_55 (lv_at hl 4 rfl) ?_
        refine lv_iload B.1.1 B.1.2.1 dX0_seamError_57 (lv_at hl 5 rfl) ?_
        obtain ⟨hok, hw⟩ := hw
        refine q_callIV B h (met_X0_errorAt l c0 c6 m7) (CB B 2 kC_X0_errorAt kI_RX0 kM_RX0_73 hd_X0_errorAt ⟨Nat.le_of_ble_eq_true rfl, Nat.le_of_ble_eq_true rfl⟩) kO_X0_errorAt kV_X0_errorAt (ci := 0) rfl (by decide) hok.1 hok.2 (rest := [.int m5]) rfl rfl hl.1 (Nat.le_of_ble_eq_true rfl) dX0_seamError_59 ⟨Nat.le_of_ble_eq_true rfl, Nat.le_of_ble_eq_true rfl⟩ hw (fun r1 S1 H locs hw9 h9 => ?_)
        replace hw := hw9
        clear hw9
        replace h := h9
        clear h9
        refine q_max B kM_RX0_82 kS_math_max kI_java_lang_Math kC_math_max hl.1 (Nat.le_of_ble_eq_true rfl) (Nat.le_of_ble_eq_true rfl) (Nat.le_of_ble_eq_true rfl) (Nat.le_of_ble_eq_true rfl) dX0_seamError_62 ?_
        refine lv_istore (i := 5) (lv' := [(5, .int (if m5 < r1 then r1 else m5)), (0, .ref c0), (3, .int c3), (4, .int c4), (6, .int c6), (7, .int m7)]) B.1.1 B.1.2.1 dX0_seamError_65 hl (by decide) rfl (fun ls hl9 => ?_)
        replace hl := hl9
        clear hl9
        refine lv_iinc (i := 7) (v := (m7 + (1 : Int32))) (lv' := [(7, .int (m7 + (1 : Int32))), (5, .int (if m5 < r1 then r1 else m5)), (0, .ref c0), (3, .int c3), (4, .int c4), (6, .int c6)]) B.1.1 B.1.2.1 dX0_seamError_67 hl (k := 5) rfl rfl (by decide) rfl (fun ls hl9 => ?_)
        replace hl := hl9
        clear hl9
        refine lv_goto (tgt := 45) B.1.1 B.1.2.1 dX0_seamError_70 (by decide) ?_
        exact ih (if m5 < r1 then r1 else m5) (m7 + (1 : Int32)) _ _ _ ls h (lv_sub hl [2, 3, 4, 1, 5, 0] rfl) hw hk
  have L35 : ∀ (c0 : Nat) (c3 : Int32) (c4 : Int32) (K : Int32 → Int32 → HS → Prop) (n : Nat) (m5 : Int32) (m6 : Int32) (S : HS) (H : Heap) (locs : List Loc) (ls : Array Slot), Hx D cs lo s S H locs → lv_has ls 8 [(0, .ref c0), (3, .int c3), (4, .int c4), (5, .int m5), (6, .int m6)] → wX0_seamError_L35 c0 c3 c4 n m5 m6 S K → (∀ (m5 : Int32) (m6 : Int32) (S : HS) (H : Heap) (locs : List Loc) (ls : Array Slot), Hx D cs lo s S H locs → lv_has ls 8 [(0, .ref c0), (3, .int c3), (4, .int c4), (5, .int m5), (6, .int m6)] → K m5 m6 S → W p l e ({ frames := 4, cells := 0, slots := 0, locals := 89 } : Room) s m [.ref a0, va_rf p1, va_rf p2].toArray below meth c H locs 0 0 (MQ below (va_Qi Q (fun S' t => hp D cs lo S' t.heap) (fun q => lo ≤ q)) [.ref a0, va_rf p1, va_rf p2].toArray s 0 0 (fun q => lo ≤ q)) (F0 m 79 ls [])) → W p l e ({ frames := 4, cells := 0, slots := 0, locals := 89 } : Room) s m [.ref a0, va_rf p1, va_rf p2].toArray below meth c H locs 0 0 (MQ below (va_Qi Q (fun S' t => hp D cs lo S' t.heap) (fun q => lo ≤ q)) [.ref a0, va_rf p1, va_rf p2].toArray s 0 0 (fun q => lo ≤ q)) (F0 m 35 ls []) := by
    intro c0 c3 c4 K n
    induction n with
    | zero => intro m5 m6 S H locs ls h hl hw hk; exact False.elim hw
    | succ n ih =>
      intro m5 m6 S H locs ls h hl hw hk
      refine lv_iload B.1.1 B.1.2.1 dX0_seamError_35 (lv_at hl 4 rfl) ?_
      refine lv_bipush (v := (8 : Int32)) B.1.1 B.1.2.1 dX0_seamError_37 (by decide) ?_
      refine lv_icmp_ge (tgt := 79) B.1.1 B.1.2.1 dX0_seamError_39 (by decide) (fun hc => ?_) (fun hc => ?_)
      · replace hw := hw.1 hc
        exact hk m5 m6 _ _ _ ls h (lv_sub hl [0, 1, 2, 3, 4] rfl) hw
      · replace hw := hw.2 hc
        refine lv_iload_n B.1.1 B.1.2.1 dX0_seamError_42 rfl (lv_at hl 1 rfl) ?_
        refine lv_istore (i := 7) (lv' := [(7, .int c3), (0, .ref c0), (3, .int c3), (4, .int c4), (5, .int m5), (6, .int m6)]) B.1.1 B.1.2.1 dX0_seamError_43 hl (by decide) rfl (fun ls hl9 => ?_)
        replace hl := hl9
        clear hl9
        obtain ⟨n1, hw⟩ := hw
        refine L45 c0 c3 c4 m6 _ n1 m5 c3 _ _ _ ls h (lv_sub hl [1, 2, 3, 4, 5, 0] rfl) hw (fun u1 u2 S2 H locs ls h9 hl9 hw9 => ?_)
        replace hw := hw9
        clear hw9
        replace h := h9
        clear h9
        replace hl := hl9
        clear hl9
        refine lv_iinc (i := 6) (v := (m6 + (1 : Int32))) (lv' := [(6, .int (m6 + (1 : Int32))), (0, .ref c0), (3, .int c3), (4, .int c4), (5, .int u1), (7, .int u2)]) B.1.1 B.1.2.1 dX0_seamError_73 hl (k := 4) rfl rfl (by decide) rfl (fun ls hl9 => ?_)
        replace hl := hl9
        clear hl9
        refine lv_goto (tgt := 35) B.1.1 B.1.2.1 dX0_seamError_76 (by decide) ?_
        exact ih u1 (m6 + (1 : Int32)) _ _ _ ls h (lv_sub hl [1, 2, 3, 4, 0] rfl) hw hk
  intro h hl hw
  replace hl : lv_has ls 8 [(0, .ref a0), (1, va_rf p1), (2, va_rf p2)] := by simpa [lv_args, rf_cat, cat_i, cat_r, cat_n, cat_j, cat_f, cat_d] using hl
  refine q_aload_n B.1.1 B.1.2.1 dX0_seamError_0 rfl (lv_at hl 1 rfl) ?_
  obtain ⟨q1, hn, hw⟩ := hw
  subst hn
  replace hl : lv_has ls 8 [(0, .ref a0), (1, .ref q1), (2, va_rf p2)] := hl
  obtain ⟨hok, hw⟩ := hw
  refine q_getIN B h (ci := 3) (j := 2) (code := 98) rfl inT_3 (by decide) kF_RX0_76 rfl rfl rfl (by decide) dX0_seamError_1 hok.1 hok.2 ?_
  refine lv_iconst (v := (1 : Int32)) B.1.1 B.1.2.1 dX0_seamError_4 (by decide) ?_
  refine lv_isub B.1.1 B.1.2.1 dX0_seamError_5 ?_
  refine q_aload_n B.1.1 B.1.2.1 dX0_seamError_6 rfl (lv_at hl 2 rfl) ?_
  obtain ⟨q2, hn, hw⟩ := hw
  subst hn
  replace hl : lv_has ls 8 [(0, .ref a0), (1, .ref q1), (2, .ref q2)] := hl
  obtain ⟨hok, hw⟩ := hw
  refine q_getIN B h (ci := 3) (j := 1) (code := 97) rfl inT_3 (by decide) kF_RX0_79 rfl rfl rfl (by decide) dX0_seamError_7 hok.1 hok.2 ?_
  refine q_min B kM_RX0_40 kS_math_min kI_java_lang_Math kC_math_min hl.1 (Nat.le_of_ble_eq_true rfl) (Nat.le_of_ble_eq_true rfl) (Nat.le_of_ble_eq_true rfl) (Nat.le_of_ble_eq_true rfl) dX0_seamError_10 ?_
  refine lv_istore_n (i := 3) (lv' := [(3, .int (if (gI S 97 q2) < ((gI S 98 q1) - (1 : Int32)) then (gI S 97 q2) else ((gI S 98 q1) - (1 : Int32)))), (0, .ref a0), (1, .ref q1), (2, .ref q2)]) B.1.1 B.1.2.1 dX0_seamError_13 rfl hl (by decide) rfl (fun ls hl9 => ?_)
  replace hl := hl9
  clear hl9
  refine lv_aload_n B.1.1 B.1.2.1 dX0_seamError_14 rfl (lv_at hl 2 rfl) ?_
  obtain ⟨hok, hw⟩ := hw
  refine q_getIN B h (ci := 3) (j := 2) (code := 98) rfl inT_3 (by decide) kF_RX0_76 rfl rfl rfl (by decide) dX0_seamError_15 hok.1 hok.2 ?_
  refine lv_iconst (v := (1 : Int32)) B.1.1 B.1.2.1 dX0_seamError_18 (by decide) ?_
  refine lv_isub B.1.1 B.1.2.1 dX0_seamError_19 ?_
  refine lv_aload_n B.1.1 B.1.2.1 dX0_seamError_20 rfl (lv_at hl 3 rfl) ?_
  obtain ⟨hok, hw⟩ := hw
  refine q_getIN B h (ci := 3) (j := 1) (code := 97) rfl inT_3 (by decide) kF_RX0_79 rfl rfl rfl (by decide) dX0_seamError_21 hok.1 hok.2 ?_
  refine q_max B kM_RX0_82 kS_math_max kI_java_lang_Math kC_math_max hl.1 (Nat.le_of_ble_eq_true rfl) (Nat.le_of_ble_eq_true rfl) (Nat.le_of_ble_eq_true rfl) (Nat.le_of_ble_eq_true rfl) dX0_seamError_24 ?_
  refine lv_istore (i := 4) (lv' := [(4, .int (if ((gI S 98 q1) - (1 : Int32)) < (gI S 97 q2) then (gI S 97 q2) else ((gI S 98 q1) - (1 : Int32)))), (3, .int (if (gI S 97 q2) < ((gI S 98 q1) - (1 : Int32)) then (gI S 97 q2) else ((gI S 98 q1) - (1 : Int32)))), (0, .ref a0), (1, .ref q1), (2, .ref q2)]) B.1.1 B.1.2.1 dX0_seamError_27 hl (by decide) rfl (fun ls hl9 => ?_)
  replace hl := hl9
  clear hl9
  refine lv_iconst (v := (0 : Int32)) B.1.1 B.1.2.1 dX0_seamError_29 (by decide) ?_
  refine lv_istore (i := 5) (lv' := [(5, .int (0 : Int32)), (4, .int (if ((gI S 98 q1) - (1 : Int32)) < (gI S 97 q2) then (gI S 97 q2) else ((gI S 98 q1) - (1 : Int32)))), (3, .int (if (gI S 97 q2) < ((gI S 98 q1) - (1 : Int32)) then (gI S 97 q2) else ((gI S 98 q1) - (1 : Int32)))), (0, .ref a0), (1, .ref q1), (2, .ref q2)]) B.1.1 B.1.2.1 dX0_seamError_30 hl (by decide) rfl (fun ls hl9 => ?_)
  replace hl := hl9
  clear hl9
  refine lv_iconst (v := (0 : Int32)) B.1.1 B.1.2.1 dX0_seamError_32 (by decide) ?_
  refine lv_istore (i := 6) (lv' := [(6, .int (0 : Int32)), (5, .int (0 : Int32)), (4, .int (if ((gI S 98 q1) - (1 : Int32)) < (gI S 97 q2) then (gI S 97 q2) else ((gI S 98 q1) - (1 : Int32)))), (3, .int (if (gI S 97 q2) < ((gI S 98 q1) - (1 : Int32)) then (gI S 97 q2) else ((gI S 98 q1) - (1 : Int32)))), (0, .ref a0), (1, .ref q1), (2, .ref q2)]) B.1.1 B.1.2.1 dX0_seamError_33 hl (by decide) rfl (fun ls hl9 => ?_)
  replace hl := hl9
  clear hl9
  obtain ⟨n2, hw⟩ := hw
  refine L35 a0 (if (gI S 97 q2) < ((gI S 98 q1) - (1 : Int32)) then (gI S 97 q2) else ((gI S 98 q1) - (1 : Int32))) (if ((gI S 98 q1) - (1 : Int32)) < (gI S 97 q2) then (gI S 97 q2) else ((gI S 98 q1) - (1 : Int32))) _ n2 (0 : Int32) (0 : Int32) _ _ _ ls h (lv_sub hl [4, 3, 2, 1, 0] rfl) hw (fun u3 u4 S3 H locs ls h9 hl9 hw9 => ?_)
  replace hw := hw9
  clear hw9
  replace h := h9
  clear h9
  replace hl := hl9
  clear hl9
  refine lv_iload B.1.1 B.1.2.1 dX0_seamError_79 (lv_at hl 3 rfl) ?_
  exact q_iret B hr hlk h hw dX0_seamError_81 (Nat.le_of_ble_eq_true rfl) (Nat.le_of_ble_eq_true rfl)
end
section
theorem dX2_layStrip_0 : decode cX2_layStrip 0 = .ok (.iconst 0, 1) := by decide +kernel
theorem dX2_layStrip_1 : decode cX2_layStrip 1 = .ok (.istore_n 3, 1) := by decide +kernel
theorem dX2_layStrip_2 : decode cX2_layStrip 2 = .ok (.aload_n 2, 1) := by decide +kernel
theorem dX2_layStrip_3 : decode cX2_layStrip 3 = .ok (.getfield 75, 3) := by decide +kernel
theorem dX2_layStrip_6 : decode cX2_layStrip 6 = .ok (.istore 4, 2) := by decide +kernel
theorem dX2_layStrip_8 : decode cX2_layStrip 8 = .ok (.iload 4, 2) := by decide +kernel
theorem dX2_layStrip_10 : decode cX2_layStrip 10 = .ok (.aload_n 2, 1) := by decide +kernel
theorem dX2_layStrip_11 : decode cX2_layStrip 11 = .ok (.getfield 72, 3) := by decide +kernel
theorem dX2_layStrip_14 : decode cX2_layStrip 14 = .ok (.if_icmp .ge 93, 3) := by decide +kernel
theorem dX2_layStrip_17 : decode cX2_layStrip 17 = .ok (.iconst 0, 1) := by decide +kernel
theorem dX2_layStrip_18 : decode cX2_layStrip 18 = .ok (.istore 5, 2) := by decide +kernel
theorem dX2_layStrip_20 : decode cX2_layStrip 20 = .ok (.iload 5, 2) := by decide +kernel
theorem dX2_layStrip_22 : decode cX2_layStrip 22 = .ok (.bipush 8, 2) := by decide +kernel
theorem dX2_layStrip_24 : decode cX2_layStrip 24 = .ok (.if_icmp .ge 24, 3) := by decide +kernel
theorem dX2_layStrip_27 : decode cX2_layStrip 27 = .ok (.aload_n 0, 1) := by decide +kernel
theorem dX2_layStrip_28 : decode cX2_layStrip 28 = .ok (.iload 5, 2) := by decide +kernel
theorem dX2_layStrip_30 : decode cX2_layStrip 30 = .ok (.aload_n 1, 1) := by decide +kernel
theorem dX2_layStrip_31 : decode cX2_layStrip 31 = .ok (.aload_n 2, 1) := by decide +kernel
theorem dX2_layStrip_32 : decode cX2_layStrip 32 = .ok (.iload 5, 2) := by decide +kernel
theorem dX2_layStrip_34 : decode cX2_layStrip 34 = .ok (.iload 4, 2) := by decide +kernel
theorem dX2_layStrip_36 : decode cX2_layStrip 36 = .ok (.invokevirtual 85, 3) := by decide +kernel
theorem dX2_layStrip_39 : decode cX2_layStrip 39 = .ok (.invokevirtual 91, 3) := by decide +kernel
theorem dX2_layStrip_42 : decode cX2_layStrip 42 = .ok (.iinc 5 1, 3) := by decide +kernel
theorem dX2_layStrip_45 : decode cX2_layStrip 45 = .ok (.goto (-25), 3) := by decide +kernel
theorem dX2_layStrip_48 : decode cX2_layStrip 48 = .ok (.iconst 0, 1) := by decide +kernel
theorem dX2_layStrip_49 : decode cX2_layStrip 49 = .ok (.istore 5, 2) := by decide +kernel
theorem dX2_layStrip_51 : decode cX2_layStrip 51 = .ok (.iload 5, 2) := by decide +kernel
theorem dX2_layStrip_53 : decode cX2_layStrip 53 = .ok (.bipush 8, 2) := by decide +kernel
theorem dX2_layStrip_55 : decode cX2_layStrip 55 = .ok (.if_icmp .ge 46, 3) := by decide +kernel
theorem dX2_layStrip_58 : decode cX2_layStrip 58 = .ok (.aload_n 0, 1) := by decide +kernel
theorem dX2_layStrip_59 : decode cX2_layStrip 59 = .ok (.iload 5, 2) := by decide +kernel
theorem dX2_layStrip_61 : decode cX2_layStrip 61 = .ok (.invokevirtual 95, 3) := by decide +kernel
theorem dX2_layStrip_64 : decode cX2_layStrip 64 = .ok (.istore 6, 2) := by decide +kernel
theorem dX2_layStrip_66 : decode cX2_layStrip 66 = .ok (.aload_n 1, 1) := by decide +kernel
theorem dX2_layStrip_67 : decode cX2_layStrip 67 = .ok (.aload_n 2, 1) := by decide +kernel
theorem dX2_layStrip_68 : decode cX2_layStrip 68 = .ok (.iload 5, 2) := by decide +kernel
theorem dX2_layStrip_70 : decode cX2_layStrip 70 = .ok (.iload 4, 2) := by decide +kernel
theorem dX2_layStrip_72 : decode cX2_layStrip 72 = .ok (.iload 6, 2) := by decide +kernel
theorem dX2_layStrip_74 : decode cX2_layStrip 74 = .ok (.invokevirtual 98, 3) := by decide +kernel
theorem dX2_layStrip_77 : decode cX2_layStrip 77 = .ok (.aload_n 0, 1) := by decide +kernel
theorem dX2_layStrip_78 : decode cX2_layStrip 78 = .ok (.dup, 1) := by decide +kernel
theorem dX2_layStrip_79 : decode cX2_layStrip 79 = .ok (.getfield 26, 3) := by decide +kernel
theorem dX2_layStrip_82 : decode cX2_layStrip 82 = .ok (.iload 6, 2) := by decide +kernel
theorem dX2_layStrip_84 : decode cX2_layStrip 84 = .ok (.iadd, 1) := by decide +kernel
theorem dX2_layStrip_85 : decode cX2_layStrip 85 = .ok (.putfield 26, 3) := by decide +kernel
theorem dX2_layStrip_88 : decode cX2_layStrip 88 = .ok (.iload_n 3, 1) := by decide +kernel
theorem dX2_layStrip_89 : decode cX2_layStrip 89 = .ok (.iload 6, 2) := by decide +kernel
theorem dX2_layStrip_91 : decode cX2_layStrip 91 = .ok (.invokestatic 102, 3) := by decide +kernel
theorem dX2_layStrip_94 : decode cX2_layStrip 94 = .ok (.istore_n 3, 1) := by decide +kernel
theorem dX2_layStrip_95 : decode cX2_layStrip 95 = .ok (.iinc 5 1, 3) := by decide +kernel
theorem dX2_layStrip_98 : decode cX2_layStrip 98 = .ok (.goto (-47), 3) := by decide +kernel
theorem dX2_layStrip_101 : decode cX2_layStrip 101 = .ok (.iinc 4 1, 3) := by decide +kernel
theorem dX2_layStrip_104 : decode cX2_layStrip 104 = .ok (.goto (-96), 3) := by decide +kernel
theorem dX2_layStrip_107 : decode cX2_layStrip 107 = .ok (.iload_n 3, 1) := by decide +kernel
theorem dX2_layStrip_108 : decode cX2_layStrip 108 = .ok (.ireturn, 1) := by decide +kernel
theorem dX2_endsStrip_0 : decode cX2_endsStrip 0 = .ok (.aload_n 0, 1) := by decide +kernel
theorem dX2_endsStrip_1 : decode cX2_endsStrip 1 = .ok (.getfield 32, 3) := by decide +kernel
theorem dX2_endsStrip_4 : decode cX2_endsStrip 4 = .ok (.astore_n 2, 1) := by decide +kernel
theorem dX2_endsStrip_5 : decode cX2_endsStrip 5 = .ok (.aload_n 0, 1) := by decide +kernel
theorem dX2_endsStrip_6 : decode cX2_endsStrip 6 = .ok (.getfield 36, 3) := by decide +kernel
theorem dX2_endsStrip_9 : decode cX2_endsStrip 9 = .ok (.astore_n 3, 1) := by decide +kernel
theorem dX2_endsStrip_10 : decode cX2_endsStrip 10 = .ok (.aload_n 2, 1) := by decide +kernel
theorem dX2_endsStrip_11 : decode cX2_endsStrip 11 = .ok (.ifnull 7, 3) := by decide +kernel
theorem dX2_endsStrip_14 : decode cX2_endsStrip 14 = .ok (.aload_n 3, 1) := by decide +kernel
theorem dX2_endsStrip_15 : decode cX2_endsStrip 15 = .ok (.ifnonnull 5, 3) := by decide +kernel
theorem dX2_endsStrip_18 : decode cX2_endsStrip 18 = .ok (.iconst 0, 1) := by decide +kernel
theorem dX2_endsStrip_19 : decode cX2_endsStrip 19 = .ok (.ireturn, 1) := by decide +kernel
theorem dX2_endsStrip_20 : decode cX2_endsStrip 20 = .ok (.aload_n 0, 1) := by decide +kernel
theorem dX2_endsStrip_21 : decode cX2_endsStrip 21 = .ok (.dup, 1) := by decide +kernel
theorem dX2_endsStrip_22 : decode cX2_endsStrip 22 = .ok (.getfield 43, 3) := by decide +kernel
theorem dX2_endsStrip_25 : decode cX2_endsStrip 25 = .ok (.iconst 1, 1) := by decide +kernel
theorem dX2_endsStrip_26 : decode cX2_endsStrip 26 = .ok (.isub, 1) := by decide +kernel
theorem dX2_endsStrip_27 : decode cX2_endsStrip 27 = .ok (.putfield 43, 3) := by decide +kernel
theorem dX2_endsStrip_30 : decode cX2_endsStrip 30 = .ok (.aload_n 0, 1) := by decide +kernel
theorem dX2_endsStrip_31 : decode cX2_endsStrip 31 = .ok (.getfield 43, 3) := by decide +kernel
theorem dX2_endsStrip_34 : decode cX2_endsStrip 34 = .ok (.ifCond .le 5, 3) := by decide +kernel
theorem dX2_endsStrip_37 : decode cX2_endsStrip 37 = .ok (.iconst 0, 1) := by decide +kernel
theorem dX2_endsStrip_38 : decode cX2_endsStrip 38 = .ok (.ireturn, 1) := by decide +kernel
theorem dX2_endsStrip_39 : decode cX2_endsStrip 39 = .ok (.aload_n 3, 1) := by decide +kernel
theorem dX2_endsStrip_40 : decode cX2_endsStrip 40 = .ok (.iload_n 1, 1) := by decide +kernel
theorem dX2_endsStrip_41 : decode cX2_endsStrip 41 = .ok (.aload_n 0, 1) := by decide +kernel
theorem dX2_endsStrip_42 : decode cX2_endsStrip 42 = .ok (.aload_n 2, 1) := by decide +kernel
theorem dX2_endsStrip_43 : decode cX2_endsStrip 43 = .ok (.aload_n 3, 1) := by decide +kernel
theorem dX2_endsStrip_44 : decode cX2_endsStrip 44 = .ok (.invokevirtual 78, 3) := by decide +kernel
theorem dX2_endsStrip_47 : decode cX2_endsStrip 47 = .ok (.iadd, 1) := by decide +kernel
theorem dX2_endsStrip_48 : decode cX2_endsStrip 48 = .ok (.putfield 82, 3) := by decide +kernel
theorem dX2_endsStrip_51 : decode cX2_endsStrip 51 = .ok (.aload_n 3, 1) := by decide +kernel
theorem dX2_endsStrip_52 : decode cX2_endsStrip 52 = .ok (.iconst 0, 1) := by decide +kernel
theorem dX2_endsStrip_53 : decode cX2_endsStrip 53 = .ok (.putfield 68, 3) := by decide +kernel
theorem dX2_endsStrip_56 : decode cX2_endsStrip 56 = .ok (.aload_n 0, 1) := by decide +kernel
theorem dX2_endsStrip_57 : decode cX2_endsStrip 57 = .ok (.aconst_null, 1) := by decide +kernel
theorem dX2_endsStrip_58 : decode cX2_endsStrip 58 = .ok (.putfield 32, 3) := by decide +kernel
theorem dX2_endsStrip_61 : decode cX2_endsStrip 61 = .ok (.aload_n 0, 1) := by decide +kernel
theorem dX2_endsStrip_62 : decode cX2_endsStrip 62 = .ok (.aconst_null, 1) := by decide +kernel
theorem dX2_endsStrip_63 : decode cX2_endsStrip 63 = .ok (.putfield 36, 3) := by decide +kernel
theorem dX2_endsStrip_66 : decode cX2_endsStrip 66 = .ok (.iconst 1, 1) := by decide +kernel
theorem dX2_endsStrip_67 : decode cX2_endsStrip 67 = .ok (.ireturn, 1) := by decide +kernel
def wX2_layStrip_L20 (c0 : Nat) (c1 : Option Nat) (c2 : Nat) (c3 : Int32) (c4 : Int32) : Nat → Int32 → HS → (Int32 → HS → Prop) → Prop
  | 0, _, _, _ => False
  | n + 1, m5, S, K => (((8 : Int32) ≤ m5 → K m5 S) ∧ (¬ (8 : Int32) ≤ m5 → (∃ q2, c1 = some q2 ∧ (ok S q2 0 ∧ (wX0_share q2 (some c2) m5 c4 S (fun r1 S1 => (ok S1 c0 2 ∧ (wX2_setDose c0 m5 r1 S1 (fun S2 => wX2_layStrip_L20 c0 c1 c2 c3 c4 n (m5 + (1 : Int32)) S2 K)))))))))
def wX2_layStrip_L51 (c0 : Nat) (c1 : Option Nat) (c2 : Nat) (c4 : Int32) : Nat → Int32 → Int32 → HS → (Int32 → Int32 → HS → Prop) → Prop
  | 0, _, _, _, _ => False
  | n + 1, m3, m5, S, K => (((8 : Int32) ≤ m5 → K m3 m5 S) ∧ (¬ (8 : Int32) ≤ m5 → (ok S c0 2 ∧ (wX2_laidInRow c0 m5 S (fun r2 S4 => (∃ q3, c1 = some q3 ∧ (ok S4 q3 0 ∧ (wX0_layDot q3 (some c2) m5 c4 r2 S4 (fun S5 => (ok S5 c0 2 ∧ (ok S5 c0 2 ∧ (∀ S6, S6 = sI S5 68 c0 ((gI S5 68 c0) + r2) → wX2_layStrip_L51 c0 c1 c2 c4 n (if m3 < r2 then r2 else m3) (m5 + (1 : Int32)) S6 K))))))))))))
def wX2_layStrip_L8 (c0 : Nat) (c1 : Option Nat) (c2 : Nat) : Nat → Int32 → Int32 → HS → (Int32 → Int32 → HS → Prop) → Prop
  | 0, _, _, _, _ => False
  | n + 1, m3, m4, S, K => (ok S c2 3 ∧ (((gI S 98 c2) ≤ m4 → K m3 m4 S) ∧ (¬ (gI S 98 c2) ≤ m4 → (∃ n1 : Nat, wX2_layStrip_L20 c0 c1 c2 m3 m4 n1 (0 : Int32) S (fun u1 S3 => (∃ n2 : Nat, wX2_layStrip_L51 c0 c1 c2 m4 n2 m3 (0 : Int32) S3 (fun u2 u3 S7 => wX2_layStrip_L8 c0 c1 c2 n u2 (m4 + (1 : Int32)) S7 K)))))))
def wX2_layStrip (a0 : Nat) (p1 : Option Nat) (p2 : Option Nat) (S : HS) (Q : Int32 → HS → Prop) : Prop := (∃ q1, p2 = some q1 ∧ (ok S q1 3 ∧ (∃ n3 : Nat, wX2_layStrip_L8 a0 p1 q1 n3 (0 : Int32) (gI S 97 q1) S (fun u4 u5 S8 => Q u4 S8))))

def wX2_endsStrip (a0 : Nat) (x1 : Int32) (S : HS) (Q : Int32 → HS → Prop) : Prop := (ok S a0 2 ∧ (∀ o1, o1 = gR S 70 a0 → (ok S a0 2 ∧ (∀ o2, o2 = gR S 71 a0 → ((o1 = none → Q (0 : Int32) S) ∧ (∀ q1, o1 = some q1 → ((o2 = none → Q (0 : Int32) S) ∧ (∀ q2, o2 = some q2 → (ok S a0 2 ∧ (ok S a0 2 ∧ (∀ S1, S1 = sI S 73 a0 ((gI S 73 a0) - (1 : Int32)) → (ok S1 a0 2 ∧ (((gI S1 73 a0) ≤ 0 → (ok S1 a0 2 ∧ (wX2_layStrip a0 (some q1) (some q2) S1 (fun r1 S2 => (ok S2 q2 3 ∧ (∀ S3, S3 = sI S2 104 q2 (x1 + r1) → (ok S3 q2 3 ∧ (∀ S4, S4 = sI S3 103 q2 (0 : Int32) → (ok S4 a0 2 ∧ (∀ S5, S5 = sR S4 70 a0 none → (ok S5 a0 2 ∧ (∀ S6, S6 = sR S5 71 a0 none → Q (1 : Int32) S6)))))))))))) ∧ (¬ (gI S1 73 a0) ≤ 0 → Q (0 : Int32) S1))))))))))))))
theorem kC_X0_share : Cond.code yX0_share cX0_share 4 (some .int) ∈ T0 := T0_mem (i := 385) (by decide +kernel) (by decide +kernel)
theorem kM_RX2_85 : Cond.methodLink RX2 85 yX0_share ∈ T0 := T0_mem (i := 524) (by decide +kernel) (by decide +kernel)
theorem hd_X0_share : yX0_share.cls ≠ "java/lang/invoke/MethodHandle" ∧ yX0_share.cls ≠ "java/lang/invoke/VarHandle" ∧ (parseMethodDescriptor yX0_share.desc).map (fun d => d.parameters.length) = some 3 := by decide +kernel
theorem kO_X0_share : Cond.instanceMethod yX0_share ∈ T0 := T0_mem (i := 383) (by decide +kernel) (by decide +kernel)
theorem kV_X0_share : Cond.selects RX0 yX0_share yX0_share ∈ T0 := T0_mem (i := 384) (by decide +kernel) (by decide +kernel)
theorem kC_X2_setDose : Cond.code yX2_setDose cX2_setDose 3 none ∈ T0 := T0_mem (i := 461) (by decide +kernel) (by decide +kernel)
theorem kM_RX2_91 : Cond.methodLink RX2 91 yX2_setDose ∈ T0 := T0_mem (i := 525) (by decide +kernel) (by decide +kernel)
theorem hd_X2_setDose : yX2_setDose.cls ≠ "java/lang/invoke/MethodHandle" ∧ yX2_setDose.cls ≠ "java/lang/invoke/VarHandle" ∧ (parseMethodDescriptor yX2_setDose.desc).map (fun d => d.parameters.length) = some 2 := by decide +kernel
theorem kO_X2_setDose : Cond.instanceMethod yX2_setDose ∈ T0 := T0_mem (i := 459) (by decide +kernel) (by decide +kernel)
theorem kV_X2_setDose : Cond.selects RX2 yX2_setDose yX2_setDose ∈ T0 := T0_mem (i := 460) (by decide +kernel) (by decide +kernel)
theorem kC_X2_laidInRow : Cond.code yX2_laidInRow cX2_laidInRow 4 (some .int) ∈ T0 := T0_mem (i := 466) (by decide +kernel) (by decide +kernel)
theorem kM_RX2_95 : Cond.methodLink RX2 95 yX2_laidInRow ∈ T0 := T0_mem (i := 526) (by decide +kernel) (by decide +kernel)
theorem hd_X2_laidInRow : yX2_laidInRow.cls ≠ "java/lang/invoke/MethodHandle" ∧ yX2_laidInRow.cls ≠ "java/lang/invoke/VarHandle" ∧ (parseMethodDescriptor yX2_laidInRow.desc).map (fun d => d.parameters.length) = some 1 := by decide +kernel
theorem kO_X2_laidInRow : Cond.instanceMethod yX2_laidInRow ∈ T0 := T0_mem (i := 464) (by decide +kernel) (by decide +kernel)
theorem kV_X2_laidInRow : Cond.selects RX2 yX2_laidInRow yX2_laidInRow ∈ T0 := T0_mem (i := 465) (by decide +kernel) (by decide +kernel)
theorem kC_X0_layDot : Cond.code yX0_layDot cX0_layDot 6 none ∈ T0 := T0_mem (i := 530) (by decide +kernel) (by decide +kernel)
theorem kM_RX2_98 : Cond.methodLink RX2 98 yX0_layDot ∈ T0 := T0_mem (i := 527) (by decide +kernel) (by decide +kernel)
theorem hd_X0_layDot : yX0_layDot.cls ≠ "java/lang/invoke/MethodHandle" ∧ yX0_layDot.cls ≠ "java/lang/invoke/VarHandle" ∧ (parseMethodDescriptor yX0_layDot.desc).map (fun d => d.parameters.length) = some 4 := by decide +kernel
theorem kO_X0_layDot : Cond.instanceMethod yX0_layDot ∈ T0 := T0_mem (i := 528) (by decide +kernel) (by decide +kernel)
theorem kV_X0_layDot : Cond.selects RX0 yX0_layDot yX0_layDot ∈ T0 := T0_mem (i := 529) (by decide +kernel) (by decide +kernel)
theorem kF_RX2_26 : Cond.fieldLink RX2 26 RX2 (TX2 4).2.1 (TX2 4).2.2.1 ∈ T0 := T0_mem (i := 68) (by decide +kernel) (by decide +kernel)
theorem kM_RX2_102 : Cond.methodLink RX2 102 Lib.Math.max.name ∈ T0 := T0_mem (i := 531) (by decide +kernel) (by decide +kernel)
theorem kC_X2_layStrip : Cond.code yX2_layStrip cX2_layStrip 7 (some .int) ∈ T0 := T0_mem (i := 523) (by decide +kernel) (by decide +kernel)
theorem kM_RX2_78 : Cond.methodLink RX2 78 yX2_layStrip ∈ T0 := T0_mem (i := 520) (by decide +kernel) (by decide +kernel)
theorem hd_X2_layStrip : yX2_layStrip.cls ≠ "java/lang/invoke/MethodHandle" ∧ yX2_layStrip.cls ≠ "java/lang/invoke/VarHandle" ∧ (parseMethodDescriptor yX2_layStrip.desc).map (fun d => d.parameters.length) = some 2 := by decide +kernel
theorem kO_X2_layStrip : Cond.instanceMethod yX2_layStrip ∈ T0 := T0_mem (i := 522) (by decide +kernel) (by decide +kernel)
theorem kV_X2_layStrip : Cond.selects RX2 yX2_layStrip yX2_layStrip ∈ T0 := T0_mem (i := 9) (by decide +kernel) (by decide +kernel)
theorem kF_RX2_82 : Cond.fieldLinkNest RX2 82 RX3 (TX3 8).2.1 (TX3 8).2.2.1 "StitchBanner" ∈ T0 := T0_mem (i := 262) (by decide +kernel) (by decide +kernel)
set_option maxHeartbeats 4000000 in
set_option maxRecDepth 100000 in
theorem met_X2_layStrip (l : Launch) (a0 : Nat) (p1 : Option Nat) (p2 : Option Nat) : MI l yX2_layStrip cX2_layStrip 7 (some .int) 3 72 0 0 [.ref a0, va_rf p1, va_rf p2] (wX2_layStrip a0 p1 p2) := by
  refine MI.of (by decide) (by simp [lg_sl, rf_cat, cat_i, cat_r, cat_n, cat_j, cat_f, cat_d]) ?_
  intro p e s m below meth c D cs lo S Q ls B hr hlk hin
  have L51 : ∀ (c0 : Nat) (c1 : Option Nat) (c2 : Nat) (c4 : Int32) (K : Int32 → Int32 → HS → Prop) (n : Nat) (m3 : Int32) (m5 : Int32) (S : HS) (H : Heap) (locs : List Loc) (ls : Array Slot), Hx D cs lo s S H locs → lv_has ls 7 [(0, .ref c0), (1, va_rf c1), (2, .ref c2), (3, .int m3), (4, .int c4), (5, .int m5)] → wX2_layStrip_L51 c0 c1 c2 c4 n m3 m5 S K → (∀ (m3 : Int32) (m5 : Int32) (S : HS) (H : Heap) (locs : List Loc) (ls : Array Slot), Hx D cs lo s S H locs → lv_has ls 7 [(0, .ref c0), (1, va_rf c1), (2, .ref c2), (3, .int m3), (4, .int c4), (5, .int m5)] → K m3 m5 S → W p l e ({ frames := 3, cells := 0, slots := 0, locals := 72 } : Room) s m [.ref a0, va_rf p1, va_rf p2].toArray below meth c H locs 0 0 (MQ below (va_Qi Q (fun S' t => hp D cs lo S' t.heap) (fun q => lo ≤ q)) [.ref a0, va_rf p1, va_rf p2].toArray s 0 0 (fun q => lo ≤ q)) (F0 m 101 ls [])) → W p l e ({ frames := 3, cells := 0, slots := 0, locals := 72 } : Room) s m [.ref a0, va_rf p1, va_rf p2].toArray below meth c H locs 0 0 (MQ below (va_Qi Q (fun S' t => hp D cs lo S' t.heap) (fun q => lo ≤ q)) [.ref a0, va_rf p1, va_rf p2].toArray s 0 0 (fun q => lo ≤ q)) (F0 m 51 ls []) := by
    intro c0 c1 c2 c4 K n
    induction n with
    | zero => intro m3 m5 S H locs ls h hl hw hk; exact False.elim hw
    | succ n ih =>
      intro m3 m5 S H locs ls h hl hw hk
      refine lv_iload B.1.1 B.1.2.1 dX2_layStrip_51 (lv_at hl 5 rfl) ?_
      refine lv_bipush (v := (8 : Int32)) B.1.1 B.1.2.1 dX2_layStrip_53 (by decide) ?_
      refine lv_icmp_ge (tgt := 101) B.1.1 B.1.2.1 dX2_layStrip_55 (by decide) (fun hc => ?_) (fun hc => ?_)
      · replace hw := hw.1 hc
        exact hk m3 m5 _ _ _ ls h (lv_sub hl [0, 1, 2, 3, 4, 5] rfl) hw
      · replace hw := hw.2 hc
        refine lv_aload_n B.1.1 B.1.2.1 dX2_layStrip_58 rfl (lv_at hl 0 rfl) ?_
        refine lv_iload B.1.1 B.1.2.1 dX2_layStrip_59 (lv_at hl 5 rfl) ?_
        obtain ⟨hok, hw⟩ := hw
        refine q_callIV B h (met_X2_laidInRow l c0 m5) (CB B 1 kC_X2_laidInRow kI_RX2 kM_RX2_95 hd_X2_laidInRow ⟨Nat.le_of_ble_eq_true rfl, Nat.le_of_ble_eq_true rfl⟩) kO_X2_laidInRow kV_X2_laidInRow (ci := 2) rfl (by decide) hok.1 hok.2 (rest := []) rfl rfl hl.1 (Nat.le_of_ble_eq_true rfl) dX2_layStrip_61 ⟨Nat.le_of_ble_eq_true rfl, Nat.le_of_ble_eq_true rfl⟩ hw (fun r2 S4 H locs hw9 h9 => ?_)
        replace hw := hw9
        clear hw9
        replace h := h9
        clear h9
        refine lv_istore (i := 6) (lv' := [(6, .int r2), (0, .ref c0), (1, va_rf c1), (2, .ref c2), (3, .int m3), (4, .int c4), (5, .int m5)]) B.1.1 B.1.2.1 dX2_layStrip_64 hl (by decide) rfl (fun ls hl9 => ?_)
        replace hl := hl9
        clear hl9
        refine q_aload_n B.1.1 B.1.2.1 dX2_layStrip_66 rfl (lv_at hl 2 rfl) ?_
        refine lv_aload_n B.1.1 B.1.2.1 dX2_layStrip_67 rfl (lv_at hl 3 rfl) ?_
        refine lv_iload B.1.1 B.1.2.1 dX2_layStrip_68 (lv_at hl 6 rfl) ?_
        refine lv_iload B.1.1 B.1.2.1 dX2_layStrip_70 (lv_at hl 5 rfl) ?_
        refine lv_iload B.1.1 B.1.2.1 dX2_layStrip_72 (lv_at hl 0 rfl) ?_
        obtain ⟨q3, hn, hw⟩ := hw
        subst hn
        replace hl : lv_has ls 7 [(6, .int r2), (0, .ref c0), (1, .ref q3), (2, .ref c2), (3, .int m3), (4, .int c4), (5, .int m5)] := hl
        obtain ⟨hok, hw⟩ := hw
        refine q_callVV B h (met_X0_layDot l q3 (some c2) m5 c4 r2) (CB B 4 kC_X0_layDot kI_RX0 kM_RX2_98 hd_X0_layDot ⟨Nat.le_of_ble_eq_true rfl, Nat.le_of_ble_eq_true rfl⟩) kO_X0_layDot kV_X0_layDot (ci := 0) rfl (by decide) hok.1 hok.2 (rest := []) rfl rfl hl.1 (Nat.le_of_ble_eq_true rfl) dX2_layStrip_74 ⟨Nat.le_of_ble_eq_true rfl, Nat.le_of_ble_eq_true rfl⟩ hw (fun S5 H locs hw9 h9 => ?_)
        replace hw := hw9
        clear hw9
        replace h := h9
        clear h9
        refine lv_aload_n B.1.1 B.1.2.1 dX2_layStrip_77 rfl (lv_at hl 1 rfl) ?_
        refine lv_dup B.1.1 B.1.2.1 dX2_layStrip_78 rfl ?_
        obtain ⟨hok, hw⟩ := hw
        refine q_getI B h (ci := 2) (j := 4) (code := 68) rfl inT_2 (by decide) kF_RX2_26 rfl rfl rfl (by decide) dX2_layStrip_79 hok.1 hok.2 ?_
        refine lv_iload B.1.1 B.1.2.1 dX2_layStrip_82 (lv_at hl 0 rfl) ?_
        refine lv_iadd B.1.1 B.1.2.1 dX2_layStrip_84 ?_
        obtain ⟨hok, hw⟩ := hw
        refine q_putI B h (ci := 2) (j := 4) (code := 68) (v := ((gI S5 68 c0) + r2)) rfl inT_2 tyX2 tyX2_ok nmX2 (by decide) kF_RX2_26 rfl rfl rfl rfl (by decide) (by first | rfl | decide) (by first | rfl | decide) dX2_layStrip_85 hok.1 hok.2 (fun H locs h9 => ?_)
        obtain ⟨S6, hS6, hh⟩ : ∃ z, z = sI S5 68 c0 ((gI S5 68 c0) + r2) ∧ Hx D cs lo s z H locs := ⟨_, rfl, h9⟩
        clear h9
        replace h := hh
        clear hh
        replace hw := hw S6 hS6
        refine lv_iload_n B.1.1 B.1.2.1 dX2_layStrip_88 rfl (lv_at hl 4 rfl) ?_
        refine lv_iload B.1.1 B.1.2.1 dX2_layStrip_89 (lv_at hl 0 rfl) ?_
        refine q_max B kM_RX2_102 kS_math_max kI_java_lang_Math kC_math_max hl.1 (Nat.le_of_ble_eq_true rfl) (Nat.le_of_ble_eq_true rfl) (Nat.le_of_ble_eq_true rfl) (Nat.le_of_ble_eq_true rfl) dX2_layStrip_91 ?_
        refine lv_istore_n (i := 3) (lv' := [(3, .int (if m3 < r2 then r2 else m3)), (6, .int r2), (0, .ref c0), (1, .ref q3), (2, .ref c2), (4, .int c4), (5, .int m5)]) B.1.1 B.1.2.1 dX2_layStrip_94 rfl hl (by decide) rfl (fun ls hl9 => ?_)
        replace hl := hl9
        clear hl9
        refine lv_iinc (i := 5) (v := (m5 + (1 : Int32))) (lv' := [(5, .int (m5 + (1 : Int32))), (3, .int (if m3 < r2 then r2 else m3)), (6, .int r2), (0, .ref c0), (1, .ref q3), (2, .ref c2), (4, .int c4)]) B.1.1 B.1.2.1 dX2_layStrip_95 hl (k := 6) rfl rfl (by decide) rfl (fun ls hl9 => ?_)
        replace hl := hl9
        clear hl9
        refine lv_goto (tgt := 51) B.1.1 B.1.2.1 dX2_layStrip_98 (by decide) ?_
        exact ih (if m3 < r2 then r2 else m3) (m5 + (1 : Int32)) _ _ _ ls h (lv_sub hl [3, 4, 5, 1, 6, 0] rfl) hw hk
  have L20 : ∀ (c0 : Nat) (c1 : Option Nat) (c2 : Nat) (c3 : Int32) (c4 : Int32) (K : Int32 → HS → Prop) (n : Nat) (m5 : Int32) (S : HS) (H : Heap) (locs : List Loc) (ls : Array Slot), Hx D cs lo s S H locs → lv_has ls 7 [(0, .ref c0), (1, va_rf c1), (2, .ref c2), (3, .int c3), (4, .int c4), (5, .int m5)] → wX2_layStrip_L20 c0 c1 c2 c3 c4 n m5 S K → (∀ (m5 : Int32) (S : HS) (H : Heap) (locs : List Loc) (ls : Array Slot), Hx D cs lo s S H locs → lv_has ls 7 [(0, .ref c0), (1, va_rf c1), (2, .ref c2), (3, .int c3), (4, .int c4), (5, .int m5)] → K m5 S → W p l e ({ frames := 3, cells := 0, slots := 0, locals := 72 } : Room) s m [.ref a0, va_rf p1, va_rf p2].toArray below meth c H locs 0 0 (MQ below (va_Qi Q (fun S' t => hp D cs lo S' t.heap) (fun q => lo ≤ q)) [.ref a0, va_rf p1, va_rf p2].toArray s 0 0 (fun q => lo ≤ q)) (F0 m 48 ls [])) → W p l e ({ frames := 3, cells := 0, slots := 0, locals := 72 } : Room) s m [.ref a0, va_rf p1, va_rf p2].toArray below meth c H locs 0 0 (MQ below (va_Qi Q (fun S' t => hp D cs lo S' t.heap) (fun q => lo ≤ q)) [.ref a0, va_rf p1, va_rf p2].toArray s 0 0 (fun q => lo ≤ q)) (F0 m 20 ls []) := by
    intro c0 c1 c2 c3 c4 K n
    induction n with
    | zero => intro m5 S H locs ls h hl hw hk; exact False.elim hw
    | succ n ih =>
      intro m5 S H locs ls h hl hw hk
      refine lv_iload B.1.1 B.1.2.1 dX2_layStrip_20 (lv_at hl 5 rfl) ?_
      refine lv_bipush (v := (8 : Int32)) B.1.1 B.1.2.1 dX2_layStrip_22 (by decide) ?_
      refine lv_icmp_ge (tgt := 48) B.1.1 B.1.2.1 dX2_layStrip_24 (by decide) (fun hc => ?_) (fun hc => ?_)
      · replace hw := hw.1 hc
        exact hk m5 _ _ _ ls h (lv_sub hl [0, 1, 2, 3, 4, 5] rfl) hw
      · replace hw := hw.2 hc
        refine lv_aload_n B.1.1 B.1.2.1 dX2_layStrip_27 rfl (lv_at hl 0 rfl) ?_
        refine lv_iload B.1.1 B.1.2.1 dX2_layStrip_28 (lv_at hl 5 rfl) ?_
        refine q_aload_n B.1.1 B.1.2.1 dX2_layStrip_30 rfl (lv_at hl 1 rfl) ?_
        refine lv_aload_n B.1.1 B.1.2.1 dX2_layStrip_31 rfl (lv_at hl 2 rfl) ?_
        refine lv_iload B.1.1 B.1.2.1 dX2_layStrip_32 (lv_at hl 5 rfl) ?_
        refine lv_iload B.1.1 B.1.2.1 dX2_layStrip_34 (lv_at hl 4 rfl) ?_
        obtain ⟨q2, hn, hw⟩ := hw
        subst hn
        replace hl : lv_has ls 7 [(0, .ref c0), (1, .ref q2), (2, .ref c2), (3, .int c3), (4, .int c4), (5, .int m5)] := hl
        obtain ⟨hok, hw⟩ := hw
        refine q_callIV B h (met_X0_share l q2 (some c2) m5 c4) (CB B 3 kC_X0_share kI_RX0 kM_RX2_85 hd_X0_share ⟨Nat.le_of_ble_eq_true rfl, Nat.le_of_ble_eq_true rfl⟩) kO_X0_share kV_X0_share (ci := 0) rfl (by decide) hok.1 hok.2 (rest := [.int m5, .ref c0]) rfl rfl hl.1 (Nat.le_of_ble_eq_true rfl) dX2_layStrip_36 ⟨Nat.le_of_ble_eq_true rfl, Nat.le_of_ble_eq_true rfl⟩ hw (fun r1 S1 H locs hw9 h9 => ?_)
        replace hw := hw9
        clear hw9
        replace h := h9
        clear h9
        obtain ⟨hok, hw⟩ := hw
        refine q_callVV B h (met_X2_setDose l c0 m5 r1) (CB B 2 kC_X2_setDose kI_RX2 kM_RX2_91 hd_X2_setDose ⟨Nat.le_of_ble_eq_true rfl, Nat.le_of_ble_eq_true rfl⟩) kO_X2_setDose kV_X2_setDose (ci := 2) rfl (by decide) hok.1 hok.2 (rest := []) rfl rfl hl.1 (Nat.le_of_ble_eq_true rfl) dX2_layStrip_39 ⟨Nat.le_of_ble_eq_true rfl, Nat.le_of_ble_eq_true rfl⟩ hw (fun S2 H locs hw9 h9 => ?_)
        replace hw := hw9
        clear hw9
        replace h := h9
        clear h9
        refine lv_iinc (i := 5) (v := (m5 + (1 : Int32))) (lv' := [(5, .int (m5 + (1 : Int32))), (0, .ref c0), (1, .ref q2), (2, .ref c2), (3, .int c3), (4, .int c4)]) B.1.1 B.1.2.1 dX2_layStrip_42 hl (k := 5) rfl rfl (by decide) rfl (fun ls hl9 => ?_)
        replace hl := hl9
        clear hl9
        refine lv_goto (tgt := 20) B.1.1 B.1.2.1 dX2_layStrip_45 (by decide) ?_
        exact ih (m5 + (1 : Int32)) _ _ _ ls h (lv_sub hl [1, 2, 3, 4, 5, 0] rfl) hw hk
  have L8 : ∀ (c0 : Nat) (c1 : Option Nat) (c2 : Nat) (K : Int32 → Int32 → HS → Prop) (n : Nat) (m3 : Int32) (m4 : Int32) (S : HS) (H : Heap) (locs : List Loc) (ls : Array Slot), Hx D cs lo s S H locs → lv_has ls 7 [(0, .ref c0), (1, va_rf c1), (2, .ref c2), (3, .int m3), (4, .int m4)] → wX2_layStrip_L8 c0 c1 c2 n m3 m4 S K → (∀ (m3 : Int32) (m4 : Int32) (S : HS) (H : Heap) (locs : List Loc) (ls : Array Slot), Hx D cs lo s S H locs → lv_has ls 7 [(0, .ref c0), (1, va_rf c1), (2, .ref c2), (3, .int m3), (4, .int m4)] → K m3 m4 S → W p l e ({ frames := 3, cells := 0, slots := 0, locals := 72 } : Room) s m [.ref a0, va_rf p1, va_rf p2].toArray below meth c H locs 0 0 (MQ below (va_Qi Q (fun S' t => hp D cs lo S' t.heap) (fun q => lo ≤ q)) [.ref a0, va_rf p1, va_rf p2].toArray s 0 0 (fun q => lo ≤ q)) (F0 m 107 ls [])) → W p l e ({ frames := 3, cells := 0, slots := 0, locals := 72 } : Room) s m [.ref a0, va_rf p1, va_rf p2].toArray below meth c H locs 0 0 (MQ below (va_Qi Q (fun S' t => hp D cs lo S' t.heap) (fun q => lo ≤ q)) [.ref a0, va_rf p1, va_rf p2].toArray s 0 0 (fun q => lo ≤ q)) (F0 m 8 ls []) := by
    intro c0 c1 c2 K n
    induction n with
    | zero => intro m3 m4 S H locs ls h hl hw hk; exact False.elim hw
    | succ n ih =>
      intro m3 m4 S H locs ls h hl hw hk
      refine lv_iload B.1.1 B.1.2.1 dX2_layStrip_8 (lv_at hl 4 rfl) ?_
      refine lv_aload_n B.1.1 B.1.2.1 dX2_layStrip_10 rfl (lv_at hl 2 rfl) ?_
      obtain ⟨hok, hw⟩ := hw
      refine q_getIN B h (ci := 3) (j := 2) (code := 98) rfl inT_3 (by decide) kF_RX2_72 rfl rfl rfl (by decide) dX2_layStrip_11 hok.1 hok.2 ?_
      refine lv_icmp_ge (tgt := 107) B.1.1 B.1.2.1 dX2_layStrip_14 (by decide) (fun hc => ?_) (fun hc => ?_)
      · replace hw := hw.1 hc
        exact hk m3 m4 _ _ _ ls h (lv_sub hl [0, 1, 2, 3, 4] rfl) hw
      · replace hw := hw.2 hc
        refine lv_iconst (v := (0 : Int32)) B.1.1 B.1.2.1 dX2_layStrip_17 (by decide) ?_
        refine lv_istore (i := 5) (lv' := [(5, .int (0 : Int32)), (0, .ref c0), (1, va_rf c1), (2, .ref c2), (3, .int m3), (4, .int m4)]) B.1.1 B.1.2.1 dX2_layStrip_18 hl (by decide) rfl (fun ls hl9 => ?_)
        replace hl := hl9
        clear hl9
        obtain ⟨n1, hw⟩ := hw
        refine L20 c0 c1 c2 m3 m4 _ n1 (0 : Int32) _ _ _ ls h (lv_sub hl [1, 2, 3, 4, 5, 0] rfl) hw (fun u1 S3 H locs ls h9 hl9 hw9 => ?_)
        replace hw := hw9
        clear hw9
        replace h := h9
        clear h9
        replace hl := hl9
        clear hl9
        refine lv_iconst (v := (0 : Int32)) B.1.1 B.1.2.1 dX2_layStrip_48 (by decide) ?_
        refine lv_istore (i := 5) (lv' := [(5, .int (0 : Int32)), (0, .ref c0), (1, va_rf c1), (2, .ref c2), (3, .int m3), (4, .int m4)]) B.1.1 B.1.2.1 dX2_layStrip_49 hl (by decide) rfl (fun ls hl9 => ?_)
        replace hl := hl9
        clear hl9
        obtain ⟨n2, hw⟩ := hw
        refine L51 c0 c1 c2 m4 _ n2 m3 (0 : Int32) _ _ _ ls h (lv_sub hl [1, 2, 3, 4, 5, 0] rfl) hw (fun u2 u3 S7 H locs ls h9 hl9 hw9 => ?_)
        replace hw := hw9
        clear hw9
        replace h := h9
        clear h9
        replace hl := hl9
        clear hl9
        refine lv_iinc (i := 4) (v := (m4 + (1 : Int32))) (lv' := [(4, .int (m4 + (1 : Int32))), (0, .ref c0), (1, va_rf c1), (2, .ref c2), (3, .int u2), (5, .int u3)]) B.1.1 B.1.2.1 dX2_layStrip_101 hl (k := 4) rfl rfl (by decide) rfl (fun ls hl9 => ?_)
        replace hl := hl9
        clear hl9
        refine lv_goto (tgt := 8) B.1.1 B.1.2.1 dX2_layStrip_104 (by decide) ?_
        exact ih u2 (m4 + (1 : Int32)) _ _ _ ls h (lv_sub hl [1, 2, 3, 4, 0] rfl) hw hk
  intro h hl hw
  replace hl : lv_has ls 7 [(0, .ref a0), (1, va_rf p1), (2, va_rf p2)] := by simpa [lv_args, rf_cat, cat_i, cat_r, cat_n, cat_j, cat_f, cat_d] using hl
  refine lv_iconst (v := (0 : Int32)) B.1.1 B.1.2.1 dX2_layStrip_0 (by decide) ?_
  refine lv_istore_n (i := 3) (lv' := [(3, .int (0 : Int32)), (0, .ref a0), (1, va_rf p1), (2, va_rf p2)]) B.1.1 B.1.2.1 dX2_layStrip_1 rfl hl (by decide) (by simp [List.filter, rf_cat, cat_i, cat_r, cat_n]) (fun ls hl9 => ?_)
  replace hl := hl9
  clear hl9
  refine q_aload_n B.1.1 B.1.2.1 dX2_layStrip_2 rfl (lv_at hl 3 rfl) ?_
  obtain ⟨q1, hn, hw⟩ := hw
  subst hn
  replace hl : lv_has ls 7 [(3, .int (0 : Int32)), (0, .ref a0), (1, va_rf p1), (2, .ref q1)] := hl
  obtain ⟨hok, hw⟩ := hw
  refine q_getIN B h (ci := 3) (j := 1) (code := 97) rfl inT_3 (by decide) kF_RX2_75 rfl rfl rfl (by decide) dX2_layStrip_3 hok.1 hok.2 ?_
  refine lv_istore (i := 4) (lv' := [(4, .int (gI S 97 q1)), (3, .int (0 : Int32)), (0, .ref a0), (1, va_rf p1), (2, .ref q1)]) B.1.1 B.1.2.1 dX2_layStrip_6 hl (by decide) rfl (fun ls hl9 => ?_)
  replace hl := hl9
  clear hl9
  obtain ⟨n3, hw⟩ := hw
  refine L8 a0 p1 q1 _ n3 (0 : Int32) (gI S 97 q1) _ _ _ ls h (lv_sub hl [2, 3, 4, 1, 0] rfl) hw (fun u4 u5 S8 H locs ls h9 hl9 hw9 => ?_)
  replace hw := hw9
  clear hw9
  replace h := h9
  clear h9
  replace hl := hl9
  clear hl9
  refine lv_iload_n B.1.1 B.1.2.1 dX2_layStrip_107 rfl (lv_at hl 3 rfl) ?_
  exact q_iret B hr hlk h hw dX2_layStrip_108 (Nat.le_of_ble_eq_true rfl) (Nat.le_of_ble_eq_true rfl)
set_option maxHeartbeats 4000000 in
set_option maxRecDepth 100000 in
theorem met_X2_endsStrip (l : Launch) (a0 : Nat) (x1 : Int32) : MI l yX2_endsStrip cX2_endsStrip 4 (some .boolean) 4 98 0 0 [.ref a0, .int x1] (wX2_endsStrip a0 x1) := by
  refine MI.of (by decide) (Nat.le_of_ble_eq_true rfl) ?_
  intro p e s m below meth c D cs lo S Q ls B hr hlk hin
  intro h hl hw
  replace hl : lv_has ls 4 [(0, .ref a0), (1, .int x1)] := hl
  refine lv_aload_n B.1.1 B.1.2.1 dX2_endsStrip_0 rfl (lv_at hl 0 rfl) ?_
  obtain ⟨hok, hw⟩ := hw
  refine q_getR B h (ci := 2) (j := 6) (code := 70) rfl inT_2 (by decide) kF_RX2_32 rfl rfl rfl (by decide) dX2_endsStrip_1 hok.1 hok.2 ?_
  obtain ⟨o1, hoo1⟩ : ∃ z, z = gR S 70 a0 := ⟨_, rfl⟩
  rw [← hoo1]
  replace hw := hw o1 hoo1
  refine q_astore_n (i := 2) (lv' := [(2, va_rf o1), (0, .ref a0), (1, .int x1)]) B.1.1 B.1.2.1 dX2_endsStrip_4 rfl hl (by decide) rfl (fun ls hl9 => ?_)
  replace hl := hl9
  clear hl9
  refine lv_aload_n B.1.1 B.1.2.1 dX2_endsStrip_5 rfl (lv_at hl 1 rfl) ?_
  obtain ⟨hok, hw⟩ := hw
  refine q_getR B h (ci := 2) (j := 7) (code := 71) rfl inT_2 (by decide) kF_RX2_36 rfl rfl rfl (by decide) dX2_endsStrip_6 hok.1 hok.2 ?_
  obtain ⟨o2, hoo2⟩ : ∃ z, z = gR S 71 a0 := ⟨_, rfl⟩
  rw [← hoo2]
  replace hw := hw o2 hoo2
  refine q_astore_n (i := 3) (lv' := [(3, va_rf o2), (2, va_rf o1), (0, .ref a0), (1, .int x1)]) B.1.1 B.1.2.1 dX2_endsStrip_9 rfl hl (by decide) (by simp [List.filter, rf_cat, cat_i, cat_r, cat_n]) (fun ls hl9 => ?_)
  replace hl := hl9
  clear hl9
  refine q_aload_n B.1.1 B.1.2.1 dX2_endsStrip_10 rfl (lv_at hl 1 rfl) ?_
  refine q_ifnull (tgt := 18) B.1.1 B.1.2.1 dX2_endsStrip_11 (by decide) (fun hn => ?_) (fun q1 hn => ?_)
  · replace hw := hw.1 hn
    subst hn
    replace hl : lv_has ls 4 [(3, va_rf o2), (2, .null), (0, .ref a0), (1, .int x1)] := hl
    refine lv_iconst (v := (0 : Int32)) B.1.1 B.1.2.1 dX2_endsStrip_18 (by decide) ?_
    exact q_zret B hr hlk h (by decide) hw dX2_endsStrip_19 (Nat.le_of_ble_eq_true rfl) (Nat.le_of_ble_eq_true rfl)
  · replace hw := hw.2 q1 hn
    subst hn
    replace hl : lv_has ls 4 [(3, va_rf o2), (2, .ref q1), (0, .ref a0), (1, .int x1)] := hl
    refine q_aload_n B.1.1 B.1.2.1 dX2_endsStrip_14 rfl (lv_at hl 0 rfl) ?_
    refine q_ifnonnull (tgt := 20) B.1.1 B.1.2.1 dX2_endsStrip_15 (by decide) (fun hn => ?_) (fun q2 hn => ?_)
    · replace hw := hw.1 hn
      subst hn
      replace hl : lv_has ls 4 [(3, .null), (2, .ref q1), (0, .ref a0), (1, .int x1)] := hl
      refine lv_iconst (v := (0 : Int32)) B.1.1 B.1.2.1 dX2_endsStrip_18 (by decide) ?_
      exact q_zret B hr hlk h (by decide) hw dX2_endsStrip_19 (Nat.le_of_ble_eq_true rfl) (Nat.le_of_ble_eq_true rfl)
    · replace hw := hw.2 q2 hn
      subst hn
      replace hl : lv_has ls 4 [(3, .ref q2), (2, .ref q1), (0, .ref a0), (1, .int x1)] := hl
      refine lv_aload_n B.1.1 B.1.2.1 dX2_endsStrip_20 rfl (lv_at hl 2 rfl) ?_
      refine lv_dup B.1.1 B.1.2.1 dX2_endsStrip_21 rfl ?_
      obtain ⟨hok, hw⟩ := hw
      refine q_getI B h (ci := 2) (j := 9) (code := 73) rfl inT_2 (by decide) kF_RX2_43 rfl rfl rfl (by decide) dX2_endsStrip_22 hok.1 hok.2 ?_
      refine lv_iconst (v := (1 : Int32)) B.1.1 B.1.2.1 dX2_endsStrip_25 (by decide) ?_
      refine lv_isub B.1.1 B.1.2.1 dX2_endsStrip_26 ?_
      obtain ⟨hok, hw⟩ := hw
      refine q_putI B h (ci := 2) (j := 9) (code := 73) (v := ((gI S 73 a0) - (1 : Int32))) rfl inT_2 tyX2 tyX2_ok nmX2 (by decide) kF_RX2_43 rfl rfl rfl rfl (by decide) (by first | rfl | decide) (by first | rfl | decide) dX2_endsStrip_27 hok.1 hok.2 (fun H locs h9 => ?_)
      obtain ⟨S1, hS1, hh⟩ : ∃ z, z = sI S 73 a0 ((gI S 73 a0) - (1 : Int32)) ∧ Hx D cs lo s z H locs := ⟨_, rfl, h9⟩
      clear h9
      replace h := hh
      clear hh
      replace hw := hw S1 hS1
      refine lv_aload_n B.1.1 B.1.2.1 dX2_endsStrip_30 rfl (lv_at hl 2 rfl) ?_
      obtain ⟨hok, hw⟩ := hw
      refine q_getI B h (ci := 2) (j := 9) (code := 73) rfl inT_2 (by decide) kF_RX2_43 rfl rfl rfl (by decide) dX2_endsStrip_31 hok.1 hok.2 ?_
      refine lv_if_le (tgt := 39) B.1.1 B.1.2.1 dX2_endsStrip_34 (by decide) (fun hc => ?_) (fun hc => ?_)
      · replace hw := hw.1 hc
        refine lv_aload_n B.1.1 B.1.2.1 dX2_endsStrip_39 rfl (lv_at hl 0 rfl) ?_
        refine lv_iload_n B.1.1 B.1.2.1 dX2_endsStrip_40 rfl (lv_at hl 3 rfl) ?_
        refine lv_aload_n B.1.1 B.1.2.1 dX2_endsStrip_41 rfl (lv_at hl 2 rfl) ?_
        refine lv_aload_n B.1.1 B.1.2.1 dX2_endsStrip_42 rfl (lv_at hl 1 rfl) ?_
        refine lv_aload_n B.1.1 B.1.2.1 dX2_endsStrip_43 rfl (lv_at hl 0 rfl) ?_
        obtain ⟨hok, hw⟩ := hw
        refine q_callIV B h (met_X2_layStrip l a0 (some q1) (some q2)) (CB B 2 kC_X2_layStrip kI_RX2 kM_RX2_78 hd_X2_layStrip ⟨Nat.le_of_ble_eq_true rfl, Nat.le_of_ble_eq_true rfl⟩) kO_X2_layStrip kV_X2_layStrip (ci := 2) rfl (by decide) hok.1 hok.2 (rest := [.int x1, .ref q2]) rfl rfl hl.1 (Nat.le_of_ble_eq_true rfl) dX2_endsStrip_44 ⟨Nat.le_of_ble_eq_true rfl, Nat.le_of_ble_eq_true rfl⟩ hw (fun r1 S2 H locs hw9 h9 => ?_)
        replace hw := hw9
        clear hw9
        replace h := h9
        clear h9
        refine lv_iadd B.1.1 B.1.2.1 dX2_endsStrip_47 ?_
        obtain ⟨hok, hw⟩ := hw
        refine q_putIN B h (ci := 3) (j := 8) (code := 104) (v := (x1 + r1)) rfl inT_3 tyX3 tyX3_ok nmX3 (by decide) kF_RX2_82 rfl rfl rfl rfl (by decide) (by first | rfl | decide) (by first | rfl | decide) dX2_endsStrip_48 hok.1 hok.2 (fun H locs h9 => ?_)
        obtain ⟨S3, hS3, hh⟩ : ∃ z, z = sI S2 104 q2 (x1 + r1) ∧ Hx D cs lo s z H locs := ⟨_, rfl, h9⟩
        clear h9
        replace h := hh
        clear hh
        replace hw := hw S3 hS3
        refine lv_aload_n B.1.1 B.1.2.1 dX2_endsStrip_51 rfl (lv_at hl 0 rfl) ?_
        refine lv_iconst (v := (0 : Int32)) B.1.1 B.1.2.1 dX2_endsStrip_52 (by decide) ?_
        obtain ⟨hok, hw⟩ := hw
        refine q_putIN B h (ci := 3) (j := 7) (code := 103) (v := (0 : Int32)) rfl inT_3 tyX3 tyX3_ok nmX3 (by decide) kF_RX2_68 rfl rfl rfl rfl (by decide) (by first | rfl | decide) (by first | rfl | decide) dX2_endsStrip_53 hok.1 hok.2 (fun H locs h9 => ?_)
        obtain ⟨S4, hS4, hh⟩ : ∃ z, z = sI S3 103 q2 (0 : Int32) ∧ Hx D cs lo s z H locs := ⟨_, rfl, h9⟩
        clear h9
        replace h := hh
        clear hh
        replace hw := hw S4 hS4
        refine lv_aload_n B.1.1 B.1.2.1 dX2_endsStrip_56 rfl (lv_at hl 2 rfl) ?_
        refine lv_null B.1.1 B.1.2.1 dX2_endsStrip_57 ?_
        obtain ⟨hok, hw⟩ := hw
        refine q_putR B h (ci := 2) (j := 6) (code := 70) (v := none) rfl inT_2 tyX2 tyX2_ok nmX2 (by decide) kF_RX2_32 rfl rfl rfl rfl (by decide) rfl rfl dX2_endsStrip_58 hok.1 hok.2 (fun H locs h9 => ?_)
        obtain ⟨S5, hS5, hh⟩ : ∃ z, z = sR S4 70 a0 none ∧ Hx D cs lo s z H locs := ⟨_, rfl, h9⟩
        clear h9
        replace h := hh
        clear hh
        replace hw := hw S5 hS5
        refine lv_aload_n B.1.1 B.1.2.1 dX2_endsStrip_61 rfl (lv_at hl 2 rfl) ?_
        refine lv_null B.1.1 B.1.2.1 dX2_endsStrip_62 ?_
        obtain ⟨hok, hw⟩ := hw
        refine q_putR B h (ci := 2) (j := 7) (code := 71) (v := none) rfl inT_2 tyX2 tyX2_ok nmX2 (by decide) kF_RX2_36 rfl rfl rfl rfl (by decide) rfl rfl dX2_endsStrip_63 hok.1 hok.2 (fun H locs h9 => ?_)
        obtain ⟨S6, hS6, hh⟩ : ∃ z, z = sR S5 71 a0 none ∧ Hx D cs lo s z H locs := ⟨_, rfl, h9⟩
        clear h9
        replace h := hh
        clear hh
        replace hw := hw S6 hS6
        refine lv_iconst (v := (1 : Int32)) B.1.1 B.1.2.1 dX2_endsStrip_66 (by decide) ?_
        exact q_zret B hr hlk h (by decide) hw dX2_endsStrip_67 (Nat.le_of_ble_eq_true rfl) (Nat.le_of_ble_eq_true rfl)
      · replace hw := hw.2 hc
        refine lv_iconst (v := (0 : Int32)) B.1.1 B.1.2.1 dX2_endsStrip_37 (by decide) ?_
        exact q_zret B hr hlk h (by decide) hw dX2_endsStrip_38 (Nat.le_of_ble_eq_true rfl) (Nat.le_of_ble_eq_true rfl)
end
section
theorem dX4_isRow_0 : decode cX4_isRow 0 = .ok (.iload_n 0, 1) := by decide +kernel
theorem dX4_isRow_1 : decode cX4_isRow 1 = .ok (.ifCond .lt 13, 3) := by decide +kernel
theorem dX4_isRow_4 : decode cX4_isRow 4 = .ok (.iload_n 0, 1) := by decide +kernel
theorem dX4_isRow_5 : decode cX4_isRow 5 = .ok (.bipush 8, 2) := by decide +kernel
theorem dX4_isRow_7 : decode cX4_isRow 7 = .ok (.if_icmp .ge 7, 3) := by decide +kernel
theorem dX4_isRow_10 : decode cX4_isRow 10 = .ok (.iconst 1, 1) := by decide +kernel
theorem dX4_isRow_11 : decode cX4_isRow 11 = .ok (.goto 4, 3) := by decide +kernel
theorem dX4_isRow_14 : decode cX4_isRow 14 = .ok (.iconst 0, 1) := by decide +kernel
theorem dX4_isRow_15 : decode cX4_isRow 15 = .ok (.ireturn, 1) := by decide +kernel
theorem dX4_isWithin_0 : decode cX4_isWithin 0 = .ok (.iload_n 0, 1) := by decide +kernel
theorem dX4_isWithin_1 : decode cX4_isWithin 1 = .ok (.iload_n 1, 1) := by decide +kernel
theorem dX4_isWithin_2 : decode cX4_isWithin 2 = .ok (.if_icmp .lt 12, 3) := by decide +kernel
theorem dX4_isWithin_5 : decode cX4_isWithin 5 = .ok (.iload_n 0, 1) := by decide +kernel
theorem dX4_isWithin_6 : decode cX4_isWithin 6 = .ok (.iload_n 2, 1) := by decide +kernel
theorem dX4_isWithin_7 : decode cX4_isWithin 7 = .ok (.if_icmp .gt 7, 3) := by decide +kernel
theorem dX4_isWithin_10 : decode cX4_isWithin 10 = .ok (.iconst 1, 1) := by decide +kernel
theorem dX4_isWithin_11 : decode cX4_isWithin 11 = .ok (.goto 4, 3) := by decide +kernel
theorem dX4_isWithin_14 : decode cX4_isWithin 14 = .ok (.iconst 0, 1) := by decide +kernel
theorem dX4_isWithin_15 : decode cX4_isWithin 15 = .ok (.ireturn, 1) := by decide +kernel
theorem dX4_bannerAt_0 : decode cX4_bannerAt 0 = .ok (.iload_n 1, 1) := by decide +kernel
theorem dX4_bannerAt_1 : decode cX4_bannerAt 1 = .ok (.ifCond .lt 21, 3) := by decide +kernel
theorem dX4_bannerAt_4 : decode cX4_bannerAt 4 = .ok (.iload_n 1, 1) := by decide +kernel
theorem dX4_bannerAt_5 : decode cX4_bannerAt 5 = .ok (.aload_n 0, 1) := by decide +kernel
theorem dX4_bannerAt_6 : decode cX4_bannerAt 6 = .ok (.getfield 11, 3) := by decide +kernel
theorem dX4_bannerAt_9 : decode cX4_bannerAt 9 = .ok (.arraylength, 1) := by decide +kernel
theorem dX4_bannerAt_10 : decode cX4_bannerAt 10 = .ok (.if_icmp .ge 12, 3) := by decide +kernel
theorem dX4_bannerAt_13 : decode cX4_bannerAt 13 = .ok (.aload_n 0, 1) := by decide +kernel
theorem dX4_bannerAt_14 : decode cX4_bannerAt 14 = .ok (.getfield 11, 3) := by decide +kernel
theorem dX4_bannerAt_17 : decode cX4_bannerAt 17 = .ok (.iload_n 1, 1) := by decide +kernel
theorem dX4_bannerAt_18 : decode cX4_bannerAt 18 = .ok (.aaload, 1) := by decide +kernel
theorem dX4_bannerAt_19 : decode cX4_bannerAt 19 = .ok (.goto 4, 3) := by decide +kernel
theorem dX4_bannerAt_22 : decode cX4_bannerAt 22 = .ok (.aconst_null, 1) := by decide +kernel
theorem dX4_bannerAt_23 : decode cX4_bannerAt 23 = .ok (.areturn, 1) := by decide +kernel
theorem dX4_printerAt_0 : decode cX4_printerAt 0 = .ok (.iload_n 1, 1) := by decide +kernel
theorem dX4_printerAt_1 : decode cX4_printerAt 1 = .ok (.ifCond .lt 21, 3) := by decide +kernel
theorem dX4_printerAt_4 : decode cX4_printerAt 4 = .ok (.iload_n 1, 1) := by decide +kernel
theorem dX4_printerAt_5 : decode cX4_printerAt 5 = .ok (.aload_n 0, 1) := by decide +kernel
theorem dX4_printerAt_6 : decode cX4_printerAt 6 = .ok (.getfield 17, 3) := by decide +kernel
theorem dX4_printerAt_9 : decode cX4_printerAt 9 = .ok (.arraylength, 1) := by decide +kernel
theorem dX4_printerAt_10 : decode cX4_printerAt 10 = .ok (.if_icmp .ge 12, 3) := by decide +kernel
theorem dX4_printerAt_13 : decode cX4_printerAt 13 = .ok (.aload_n 0, 1) := by decide +kernel
theorem dX4_printerAt_14 : decode cX4_printerAt 14 = .ok (.getfield 17, 3) := by decide +kernel
theorem dX4_printerAt_17 : decode cX4_printerAt 17 = .ok (.iload_n 1, 1) := by decide +kernel
theorem dX4_printerAt_18 : decode cX4_printerAt 18 = .ok (.aaload, 1) := by decide +kernel
theorem dX4_printerAt_19 : decode cX4_printerAt 19 = .ok (.goto 4, 3) := by decide +kernel
theorem dX4_printerAt_22 : decode cX4_printerAt 22 = .ok (.aconst_null, 1) := by decide +kernel
theorem dX4_printerAt_23 : decode cX4_printerAt 23 = .ok (.areturn, 1) := by decide +kernel
theorem dX4_stripAt_0 : decode cX4_stripAt 0 = .ok (.aload_n 0, 1) := by decide +kernel
theorem dX4_stripAt_1 : decode cX4_stripAt 1 = .ok (.ifnonnull 7, 3) := by decide +kernel
theorem dX4_stripAt_4 : decode cX4_stripAt 4 = .ok (.aconst_null, 1) := by decide +kernel
theorem dX4_stripAt_5 : decode cX4_stripAt 5 = .ok (.goto 8, 3) := by decide +kernel
theorem dX4_stripAt_8 : decode cX4_stripAt 8 = .ok (.aload_n 0, 1) := by decide +kernel
theorem dX4_stripAt_9 : decode cX4_stripAt 9 = .ok (.iload_n 1, 1) := by decide +kernel
theorem dX4_stripAt_10 : decode cX4_stripAt 10 = .ok (.invokevirtual 221, 3) := by decide +kernel
theorem dX4_stripAt_13 : decode cX4_stripAt 13 = .ok (.areturn, 1) := by decide +kernel
theorem dX4_takeFirstWaiting_0 : decode cX4_takeFirstWaiting 0 = .ok (.aconst_null, 1) := by decide +kernel
theorem dX4_takeFirstWaiting_1 : decode cX4_takeFirstWaiting 1 = .ok (.astore_n 3, 1) := by decide +kernel
theorem dX4_takeFirstWaiting_2 : decode cX4_takeFirstWaiting 2 = .ok (.aconst_null, 1) := by decide +kernel
theorem dX4_takeFirstWaiting_3 : decode cX4_takeFirstWaiting 3 = .ok (.astore 4, 2) := by decide +kernel
theorem dX4_takeFirstWaiting_5 : decode cX4_takeFirstWaiting 5 = .ok (.iconst (-1), 1) := by decide +kernel
theorem dX4_takeFirstWaiting_6 : decode cX4_takeFirstWaiting 6 = .ok (.istore 5, 2) := by decide +kernel
theorem dX4_takeFirstWaiting_8 : decode cX4_takeFirstWaiting 8 = .ok (.iconst 0, 1) := by decide +kernel
theorem dX4_takeFirstWaiting_9 : decode cX4_takeFirstWaiting 9 = .ok (.istore 6, 2) := by decide +kernel
theorem dX4_takeFirstWaiting_11 : decode cX4_takeFirstWaiting 11 = .ok (.iload 6, 2) := by decide +kernel
theorem dX4_takeFirstWaiting_13 : decode cX4_takeFirstWaiting 13 = .ok (.aload_n 0, 1) := by decide +kernel
theorem dX4_takeFirstWaiting_14 : decode cX4_takeFirstWaiting 14 = .ok (.getfield 11, 3) := by decide +kernel
theorem dX4_takeFirstWaiting_17 : decode cX4_takeFirstWaiting 17 = .ok (.arraylength, 1) := by decide +kernel
theorem dX4_takeFirstWaiting_18 : decode cX4_takeFirstWaiting 18 = .ok (.if_icmp .ge 66, 3) := by decide +kernel
theorem dX4_takeFirstWaiting_21 : decode cX4_takeFirstWaiting 21 = .ok (.aload_n 0, 1) := by decide +kernel
theorem dX4_takeFirstWaiting_22 : decode cX4_takeFirstWaiting 22 = .ok (.getfield 11, 3) := by decide +kernel
theorem dX4_takeFirstWaiting_25 : decode cX4_takeFirstWaiting 25 = .ok (.iload 6, 2) := by decide +kernel
theorem dX4_takeFirstWaiting_27 : decode cX4_takeFirstWaiting 27 = .ok (.aaload, 1) := by decide +kernel
theorem dX4_takeFirstWaiting_28 : decode cX4_takeFirstWaiting 28 = .ok (.astore 7, 2) := by decide +kernel
theorem dX4_takeFirstWaiting_30 : decode cX4_takeFirstWaiting 30 = .ok (.aload 7, 2) := by decide +kernel
theorem dX4_takeFirstWaiting_32 : decode cX4_takeFirstWaiting 32 = .ok (.ifnull 46, 3) := by decide +kernel
theorem dX4_takeFirstWaiting_35 : decode cX4_takeFirstWaiting 35 = .ok (.aload_n 3, 1) := by decide +kernel
theorem dX4_takeFirstWaiting_36 : decode cX4_takeFirstWaiting 36 = .ok (.ifnull 18, 3) := by decide +kernel
theorem dX4_takeFirstWaiting_39 : decode cX4_takeFirstWaiting 39 = .ok (.aload 7, 2) := by decide +kernel
theorem dX4_takeFirstWaiting_41 : decode cX4_takeFirstWaiting 41 = .ok (.getfield 208, 3) := by decide +kernel
theorem dX4_takeFirstWaiting_44 : decode cX4_takeFirstWaiting 44 = .ok (.aload_n 3, 1) := by decide +kernel
theorem dX4_takeFirstWaiting_45 : decode cX4_takeFirstWaiting 45 = .ok (.getfield 208, 3) := by decide +kernel
theorem dX4_takeFirstWaiting_48 : decode cX4_takeFirstWaiting 48 = .ok (.if_icmp .lt 6, 3) := by decide +kernel
theorem dX4_takeFirstWaiting_51 : decode cX4_takeFirstWaiting 51 = .ok (.goto 27, 3) := by decide +kernel
theorem dX4_takeFirstWaiting_54 : decode cX4_takeFirstWaiting 54 = .ok (.aload 7, 2) := by decide +kernel
theorem dX4_takeFirstWaiting_56 : decode cX4_takeFirstWaiting 56 = .ok (.iload_n 2, 1) := by decide +kernel
theorem dX4_takeFirstWaiting_57 : decode cX4_takeFirstWaiting 57 = .ok (.invokevirtual 210, 3) := by decide +kernel
theorem dX4_takeFirstWaiting_60 : decode cX4_takeFirstWaiting 60 = .ok (.astore 8, 2) := by decide +kernel
theorem dX4_takeFirstWaiting_62 : decode cX4_takeFirstWaiting 62 = .ok (.aload 8, 2) := by decide +kernel
theorem dX4_takeFirstWaiting_64 : decode cX4_takeFirstWaiting 64 = .ok (.ifnull 14, 3) := by decide +kernel
theorem dX4_takeFirstWaiting_67 : decode cX4_takeFirstWaiting 67 = .ok (.aload 7, 2) := by decide +kernel
theorem dX4_takeFirstWaiting_69 : decode cX4_takeFirstWaiting 69 = .ok (.astore_n 3, 1) := by decide +kernel
theorem dX4_takeFirstWaiting_70 : decode cX4_takeFirstWaiting 70 = .ok (.aload 8, 2) := by decide +kernel
theorem dX4_takeFirstWaiting_72 : decode cX4_takeFirstWaiting 72 = .ok (.astore 4, 2) := by decide +kernel
theorem dX4_takeFirstWaiting_74 : decode cX4_takeFirstWaiting 74 = .ok (.iload 6, 2) := by decide +kernel
theorem dX4_takeFirstWaiting_76 : decode cX4_takeFirstWaiting 76 = .ok (.istore 5, 2) := by decide +kernel
theorem dX4_takeFirstWaiting_78 : decode cX4_takeFirstWaiting 78 = .ok (.iinc 6 1, 3) := by decide +kernel
theorem dX4_takeFirstWaiting_81 : decode cX4_takeFirstWaiting 81 = .ok (.goto (-70), 3) := by decide +kernel
theorem dX4_takeFirstWaiting_84 : decode cX4_takeFirstWaiting 84 = .ok (.aload_n 3, 1) := by decide +kernel
theorem dX4_takeFirstWaiting_85 : decode cX4_takeFirstWaiting 85 = .ok (.ifnull 17, 3) := by decide +kernel
theorem dX4_takeFirstWaiting_88 : decode cX4_takeFirstWaiting 88 = .ok (.aload 4, 2) := by decide +kernel
theorem dX4_takeFirstWaiting_90 : decode cX4_takeFirstWaiting 90 = .ok (.ifnull 12, 3) := by decide +kernel
theorem dX4_takeFirstWaiting_93 : decode cX4_takeFirstWaiting 93 = .ok (.aload_n 1, 1) := by decide +kernel
theorem dX4_takeFirstWaiting_94 : decode cX4_takeFirstWaiting 94 = .ok (.aload_n 3, 1) := by decide +kernel
theorem dX4_takeFirstWaiting_95 : decode cX4_takeFirstWaiting 95 = .ok (.aload 4, 2) := by decide +kernel
theorem dX4_takeFirstWaiting_97 : decode cX4_takeFirstWaiting 97 = .ok (.iload 5, 2) := by decide +kernel
theorem dX4_takeFirstWaiting_99 : decode cX4_takeFirstWaiting 99 = .ok (.invokevirtual 214, 3) := by decide +kernel
theorem dX4_takeFirstWaiting_102 : decode cX4_takeFirstWaiting 102 = .ok (.return_, 1) := by decide +kernel
theorem dX4_startIdlePrinters_0 : decode cX4_startIdlePrinters 0 = .ok (.iconst 0, 1) := by decide +kernel
theorem dX4_startIdlePrinters_1 : decode cX4_startIdlePrinters 1 = .ok (.istore_n 1, 1) := by decide +kernel
theorem dX4_startIdlePrinters_2 : decode cX4_startIdlePrinters 2 = .ok (.iload_n 1, 1) := by decide +kernel
theorem dX4_startIdlePrinters_3 : decode cX4_startIdlePrinters 3 = .ok (.aload_n 0, 1) := by decide +kernel
theorem dX4_startIdlePrinters_4 : decode cX4_startIdlePrinters 4 = .ok (.getfield 17, 3) := by decide +kernel
theorem dX4_startIdlePrinters_7 : decode cX4_startIdlePrinters 7 = .ok (.arraylength, 1) := by decide +kernel
theorem dX4_startIdlePrinters_8 : decode cX4_startIdlePrinters 8 = .ok (.if_icmp .ge 40, 3) := by decide +kernel
theorem dX4_startIdlePrinters_11 : decode cX4_startIdlePrinters 11 = .ok (.aload_n 0, 1) := by decide +kernel
theorem dX4_startIdlePrinters_12 : decode cX4_startIdlePrinters 12 = .ok (.getfield 17, 3) := by decide +kernel
theorem dX4_startIdlePrinters_15 : decode cX4_startIdlePrinters 15 = .ok (.iload_n 1, 1) := by decide +kernel
theorem dX4_startIdlePrinters_16 : decode cX4_startIdlePrinters 16 = .ok (.aaload, 1) := by decide +kernel
theorem dX4_startIdlePrinters_17 : decode cX4_startIdlePrinters 17 = .ok (.astore_n 2, 1) := by decide +kernel
theorem dX4_startIdlePrinters_18 : decode cX4_startIdlePrinters 18 = .ok (.aload_n 2, 1) := by decide +kernel
theorem dX4_startIdlePrinters_19 : decode cX4_startIdlePrinters 19 = .ok (.ifnull 23, 3) := by decide +kernel
theorem dX4_startIdlePrinters_22 : decode cX4_startIdlePrinters 22 = .ok (.aload_n 2, 1) := by decide +kernel
theorem dX4_startIdlePrinters_23 : decode cX4_startIdlePrinters 23 = .ok (.invokevirtual 120, 3) := by decide +kernel
theorem dX4_startIdlePrinters_26 : decode cX4_startIdlePrinters 26 = .ok (.ifCond .ne 16, 3) := by decide +kernel
theorem dX4_startIdlePrinters_29 : decode cX4_startIdlePrinters 29 = .ok (.aload_n 2, 1) := by decide +kernel
theorem dX4_startIdlePrinters_30 : decode cX4_startIdlePrinters 30 = .ok (.getfield 157, 3) := by decide +kernel
theorem dX4_startIdlePrinters_33 : decode cX4_startIdlePrinters 33 = .ok (.ifCond .le 9, 3) := by decide +kernel
theorem dX4_startIdlePrinters_36 : decode cX4_startIdlePrinters 36 = .ok (.aload_n 0, 1) := by decide +kernel
theorem dX4_startIdlePrinters_37 : decode cX4_startIdlePrinters 37 = .ok (.aload_n 2, 1) := by decide +kernel
theorem dX4_startIdlePrinters_38 : decode cX4_startIdlePrinters 38 = .ok (.iload_n 1, 1) := by decide +kernel
theorem dX4_startIdlePrinters_39 : decode cX4_startIdlePrinters 39 = .ok (.invokevirtual 204, 3) := by decide +kernel
theorem dX4_startIdlePrinters_42 : decode cX4_startIdlePrinters 42 = .ok (.iinc 1 1, 3) := by decide +kernel
theorem dX4_startIdlePrinters_45 : decode cX4_startIdlePrinters 45 = .ok (.goto (-43), 3) := by decide +kernel
theorem dX4_startIdlePrinters_48 : decode cX4_startIdlePrinters 48 = .ok (.return_, 1) := by decide +kernel
theorem dX4_endTick_0 : decode cX4_endTick 0 = .ok (.iconst 0, 1) := by decide +kernel
theorem dX4_endTick_1 : decode cX4_endTick 1 = .ok (.istore_n 1, 1) := by decide +kernel
theorem dX4_endTick_2 : decode cX4_endTick 2 = .ok (.iconst 0, 1) := by decide +kernel
theorem dX4_endTick_3 : decode cX4_endTick 3 = .ok (.istore_n 2, 1) := by decide +kernel
theorem dX4_endTick_4 : decode cX4_endTick 4 = .ok (.iload_n 2, 1) := by decide +kernel
theorem dX4_endTick_5 : decode cX4_endTick 5 = .ok (.aload_n 0, 1) := by decide +kernel
theorem dX4_endTick_6 : decode cX4_endTick 6 = .ok (.getfield 17, 3) := by decide +kernel
theorem dX4_endTick_9 : decode cX4_endTick 9 = .ok (.arraylength, 1) := by decide +kernel
theorem dX4_endTick_10 : decode cX4_endTick 10 = .ok (.if_icmp .ge 34, 3) := by decide +kernel
theorem dX4_endTick_13 : decode cX4_endTick 13 = .ok (.aload_n 0, 1) := by decide +kernel
theorem dX4_endTick_14 : decode cX4_endTick 14 = .ok (.getfield 17, 3) := by decide +kernel
theorem dX4_endTick_17 : decode cX4_endTick 17 = .ok (.iload_n 2, 1) := by decide +kernel
theorem dX4_endTick_18 : decode cX4_endTick 18 = .ok (.aaload, 1) := by decide +kernel
theorem dX4_endTick_19 : decode cX4_endTick 19 = .ok (.astore_n 3, 1) := by decide +kernel
theorem dX4_endTick_20 : decode cX4_endTick 20 = .ok (.aload_n 3, 1) := by decide +kernel
theorem dX4_endTick_21 : decode cX4_endTick 21 = .ok (.ifnull 17, 3) := by decide +kernel
theorem dX4_endTick_24 : decode cX4_endTick 24 = .ok (.aload_n 3, 1) := by decide +kernel
theorem dX4_endTick_25 : decode cX4_endTick 25 = .ok (.aload_n 0, 1) := by decide +kernel
theorem dX4_endTick_26 : decode cX4_endTick 26 = .ok (.getfield 25, 3) := by decide +kernel
theorem dX4_endTick_29 : decode cX4_endTick 29 = .ok (.invokevirtual 218, 3) := by decide +kernel
theorem dX4_endTick_32 : decode cX4_endTick 32 = .ok (.ifCond .eq 6, 3) := by decide +kernel
theorem dX4_endTick_35 : decode cX4_endTick 35 = .ok (.iinc 1 1, 3) := by decide +kernel
theorem dX4_endTick_38 : decode cX4_endTick 38 = .ok (.iinc 2 1, 3) := by decide +kernel
theorem dX4_endTick_41 : decode cX4_endTick 41 = .ok (.goto (-37), 3) := by decide +kernel
theorem dX4_endTick_44 : decode cX4_endTick 44 = .ok (.iload_n 1, 1) := by decide +kernel
theorem dX4_endTick_45 : decode cX4_endTick 45 = .ok (.ireturn, 1) := by decide +kernel

def wX4_isRow (x0 : Int32) (S : HS) (Q : Int32 → HS → Prop) : Prop := ((x0 < 0 → Q (0 : Int32) S) ∧ (¬ x0 < 0 → (((8 : Int32) ≤ x0 → Q (0 : Int32) S) ∧ (¬ (8 : Int32) ≤ x0 → Q (1 : Int32) S))))

def wX4_isWithin (x0 : Int32) (x1 : Int32) (x2 : Int32) (S : HS) (Q : Int32 → HS → Prop) : Prop := ((x0 < x1 → Q (0 : Int32) S) ∧ (¬ x0 < x1 → ((x2 < x0 → Q (0 : Int32) S) ∧ (¬ x2 < x0 → Q (1 : Int32) S))))

def wX4_bannerAt (a0 : Nat) (x1 : Int32) (S : HS) (Q : Option Nat → HS → Prop) : Prop := ((x1 < 0 → Q none S) ∧ (¬ x1 < 0 → (ok S a0 4 ∧ (∀ o1, o1 = gR S 128 a0 → (∃ q1, o1 = some q1 ∧ (ok S q1 8 ∧ (((nI (gN S q1)) ≤ x1 → Q none S) ∧ (¬ (nI (gN S q1)) ≤ x1 → (ok S a0 4 ∧ (∀ o2, o2 = gR S 128 a0 → (∃ q2, o2 = some q2 ∧ (ok S q2 8 ∧ vp_in x1 (gN S q2) ∧ (∀ o3, o3 = gQ S q2 x1.toNatClampNeg → Q o3 S)))))))))))))

def wX4_printerAt (a0 : Nat) (x1 : Int32) (S : HS) (Q : Option Nat → HS → Prop) : Prop := ((x1 < 0 → Q none S) ∧ (¬ x1 < 0 → (ok S a0 4 ∧ (∀ o1, o1 = gR S 129 a0 → (∃ q1, o1 = some q1 ∧ (ok S q1 9 ∧ (((nI (gN S q1)) ≤ x1 → Q none S) ∧ (¬ (nI (gN S q1)) ≤ x1 → (ok S a0 4 ∧ (∀ o2, o2 = gR S 129 a0 → (∃ q2, o2 = some q2 ∧ (ok S q2 9 ∧ vp_in x1 (gN S q2) ∧ (∀ o3, o3 = gQ S q2 x1.toNatClampNeg → Q o3 S)))))))))))))

def wX4_stripAt (p0 : Option Nat) (x1 : Int32) (S : HS) (Q : Option Nat → HS → Prop) : Prop := ((p0 = none → Q none S) ∧ (∀ q1, p0 = some q1 → (ok S q1 0 ∧ (wX0_stripOf q1 x1 S (fun o1 S1 => Q o1 S1)))))
def wX4_takeFirstWaiting_L11 (c0 : Nat) (c1 : Option Nat) (c2 : Int32) : Nat → Option Nat → Option Nat → Int32 → Int32 → HS → (Option Nat → Option Nat → Int32 → Int32 → HS → Prop) → Prop
  | 0, _, _, _, _, _, _ => False
  | n + 1, m3, m4, m5, m6, S, K => (ok S c0 4 ∧ (∀ o1, o1 = gR S 128 c0 → (∃ q1, o1 = some q1 ∧ (ok S q1 8 ∧ (((nI (gN S q1)) ≤ m6 → K m3 m4 m5 m6 S) ∧ (¬ (nI (gN S q1)) ≤ m6 → (ok S c0 4 ∧ (∀ o2, o2 = gR S 128 c0 → (∃ q2, o2 = some q2 ∧ (ok S q2 8 ∧ vp_in m6 (gN S q2) ∧ (∀ o3, o3 = gQ S q2 m6.toNatClampNeg → ((o3 = none → wX4_takeFirstWaiting_L11 c0 c1 c2 n m3 m4 m5 (m6 + (1 : Int32)) S K) ∧ (∀ q3, o3 = some q3 → ((m3 = none → (ok S q3 0 ∧ (wX0_firstWaitingFor q3 c2 S (fun o4 S1 => ((o4 = none → wX4_takeFirstWaiting_L11 c0 c1 c2 n none m4 m5 (m6 + (1 : Int32)) S1 K) ∧ (∀ q5, o4 = some q5 → wX4_takeFirstWaiting_L11 c0 c1 c2 n (some q3) (some q5) m6 (m6 + (1 : Int32)) S1 K)))))) ∧ (∀ q4, m3 = some q4 → (ok S q3 0 ∧ (ok S q4 0 ∧ (((gI S 2 q3) < (gI S 2 q4) → (ok S q3 0 ∧ (wX0_firstWaitingFor q3 c2 S (fun o5 S2 => ((o5 = none → wX4_takeFirstWaiting_L11 c0 c1 c2 n (some q4) m4 m5 (m6 + (1 : Int32)) S2 K) ∧ (∀ q6, o5 = some q6 → wX4_takeFirstWaiting_L11 c0 c1 c2 n (some q3) (some q6) m6 (m6 + (1 : Int32)) S2 K)))))) ∧ (¬ (gI S 2 q3) < (gI S 2 q4) → wX4_takeFirstWaiting_L11 c0 c1 c2 n (some q4) m4 m5 (m6 + (1 : Int32)) S K)))))))))))))))))))
def wX4_takeFirstWaiting (a0 : Nat) (p1 : Option Nat) (x2 : Int32) (S : HS) (Q : HS → Prop) : Prop := (∃ n1 : Nat, wX4_takeFirstWaiting_L11 a0 p1 x2 n1 none none (-1 : Int32) (0 : Int32) S (fun u1 u2 u3 u4 S3 => ((u1 = none → Q S3) ∧ (∀ q7, u1 = some q7 → ((u2 = none → Q S3) ∧ (∀ q8, u2 = some q8 → (∃ q9, p1 = some q9 ∧ (ok S3 q9 2 ∧ (wX2_start q9 (some q7) (some q8) u3 S3 (fun S4 => Q S4))))))))))
def wX4_startIdlePrinters_L2 (c0 : Nat) : Nat → Int32 → HS → (Int32 → HS → Prop) → Prop
  | 0, _, _, _ => False
  | n + 1, m1, S, K => (ok S c0 4 ∧ (∀ o1, o1 = gR S 129 c0 → (∃ q1, o1 = some q1 ∧ (ok S q1 9 ∧ (((nI (gN S q1)) ≤ m1 → K m1 S) ∧ (¬ (nI (gN S q1)) ≤ m1 → (ok S c0 4 ∧ (∀ o2, o2 = gR S 129 c0 → (∃ q2, o2 = some q2 ∧ (ok S q2 9 ∧ vp_in m1 (gN S q2) ∧ (∀ o3, o3 = gQ S q2 m1.toNatClampNeg → ((o3 = none → wX4_startIdlePrinters_L2 c0 n (m1 + (1 : Int32)) S K) ∧ (∀ q3, o3 = some q3 → (ok S q3 2 ∧ (wX2_isPrinting q3 S (fun r1 S1 => ((¬ r1 = 0 → wX4_startIdlePrinters_L2 c0 n (m1 + (1 : Int32)) S1 K) ∧ (r1 = 0 → (ok S1 q3 2 ∧ (((gI S1 69 q3) ≤ 0 → wX4_startIdlePrinters_L2 c0 n (m1 + (1 : Int32)) S1 K) ∧ (¬ (gI S1 69 q3) ≤ 0 → (ok S1 c0 4 ∧ (wX4_takeFirstWaiting c0 (some q3) m1 S1 (fun S2 => wX4_startIdlePrinters_L2 c0 n (m1 + (1 : Int32)) S2 K))))))))))))))))))))))))
def wX4_startIdlePrinters (a0 : Nat) (S : HS) (Q : HS → Prop) : Prop := (∃ n1 : Nat, wX4_startIdlePrinters_L2 a0 n1 (0 : Int32) S (fun u1 S3 => Q S3))
def wX4_endTick_L4 (c0 : Nat) : Nat → Int32 → Int32 → HS → (Int32 → Int32 → HS → Prop) → Prop
  | 0, _, _, _, _ => False
  | n + 1, m1, m2, S, K => (ok S c0 4 ∧ (∀ o1, o1 = gR S 129 c0 → (∃ q1, o1 = some q1 ∧ (ok S q1 9 ∧ (((nI (gN S q1)) ≤ m2 → K m1 m2 S) ∧ (¬ (nI (gN S q1)) ≤ m2 → (ok S c0 4 ∧ (∀ o2, o2 = gR S 129 c0 → (∃ q2, o2 = some q2 ∧ (ok S q2 9 ∧ vp_in m2 (gN S q2) ∧ (∀ o3, o3 = gQ S q2 m2.toNatClampNeg → ((o3 = none → wX4_endTick_L4 c0 n m1 (m2 + (1 : Int32)) S K) ∧ (∀ q3, o3 = some q3 → (ok S c0 4 ∧ (ok S q3 2 ∧ (wX2_endsStrip q3 (gI S 131 c0) S (fun r1 S1 => ((r1 = 0 → wX4_endTick_L4 c0 n m1 (m2 + (1 : Int32)) S1 K) ∧ (¬ r1 = 0 → wX4_endTick_L4 c0 n (m1 + (1 : Int32)) (m2 + (1 : Int32)) S1 K)))))))))))))))))))
def wX4_endTick (a0 : Nat) (S : HS) (Q : Int32 → HS → Prop) : Prop := (∃ n1 : Nat, wX4_endTick_L4 a0 n1 (0 : Int32) (0 : Int32) S (fun u1 u2 S2 => Q u1 S2))
theorem kF_RX4_11 : Cond.fieldLink RX4 11 RX4 (TX4 0).2.1 (TX4 0).2.2.1 ∈ T0 := T0_mem (i := 101) (by decide +kernel) (by decide +kernel)
theorem inT_4 : ∀ w ∈ u_ws RX4 TX4 4, w ∈ T0 := inT [105, 107, 109, 111] (by decide +kernel) (by decide +kernel)
theorem kF_RX4_17 : Cond.fieldLink RX4 17 RX4 (TX4 1).2.1 (TX4 1).2.2.1 ∈ T0 := T0_mem (i := 102) (by decide +kernel) (by decide +kernel)
theorem kC_X0_stripOf : Cond.code yX0_stripOf cX0_stripOf 2 (some (.object "StitchBanner$Strip")) ∈ T0 := T0_mem (i := 380) (by decide +kernel) (by decide +kernel)
theorem kM_RX4_221 : Cond.methodLink RX4 221 yX0_stripOf ∈ T0 := T0_mem (i := 377) (by decide +kernel) (by decide +kernel)
theorem hd_X0_stripOf : yX0_stripOf.cls ≠ "java/lang/invoke/MethodHandle" ∧ yX0_stripOf.cls ≠ "java/lang/invoke/VarHandle" ∧ (parseMethodDescriptor yX0_stripOf.desc).map (fun d => d.parameters.length) = some 1 := by decide +kernel
theorem kO_X0_stripOf : Cond.instanceMethod yX0_stripOf ∈ T0 := T0_mem (i := 378) (by decide +kernel) (by decide +kernel)
theorem kV_X0_stripOf : Cond.selects RX0 yX0_stripOf yX0_stripOf ∈ T0 := T0_mem (i := 379) (by decide +kernel) (by decide +kernel)
theorem kC_X0_firstWaitingFor : Cond.code yX0_firstWaitingFor cX0_firstWaitingFor 4 (some (.object "StitchBanner$Strip")) ∈ T0 := T0_mem (i := 507) (by decide +kernel) (by decide +kernel)
theorem kM_RX4_210 : Cond.methodLink RX4 210 yX0_firstWaitingFor ∈ T0 := T0_mem (i := 504) (by decide +kernel) (by decide +kernel)
theorem hd_X0_firstWaitingFor : yX0_firstWaitingFor.cls ≠ "java/lang/invoke/MethodHandle" ∧ yX0_firstWaitingFor.cls ≠ "java/lang/invoke/VarHandle" ∧ (parseMethodDescriptor yX0_firstWaitingFor.desc).map (fun d => d.parameters.length) = some 1 := by decide +kernel
theorem kO_X0_firstWaitingFor : Cond.instanceMethod yX0_firstWaitingFor ∈ T0 := T0_mem (i := 505) (by decide +kernel) (by decide +kernel)
theorem kV_X0_firstWaitingFor : Cond.selects RX0 yX0_firstWaitingFor yX0_firstWaitingFor ∈ T0 := T0_mem (i := 506) (by decide +kernel) (by decide +kernel)
theorem kF_RX4_208 : Cond.fieldLinkNest RX4 208 RX0 (TX0 2).2.1 (TX0 2).2.2.1 "StitchBanner" ∈ T0 := T0_mem (i := 286) (by decide +kernel) (by decide +kernel)
theorem kC_X2_start : Cond.code yX2_start cX2_start 4 none ∈ T0 := T0_mem (i := 511) (by decide +kernel) (by decide +kernel)
theorem kM_RX4_214 : Cond.methodLink RX4 214 yX2_start ∈ T0 := T0_mem (i := 508) (by decide +kernel) (by decide +kernel)
theorem hd_X2_start : yX2_start.cls ≠ "java/lang/invoke/MethodHandle" ∧ yX2_start.cls ≠ "java/lang/invoke/VarHandle" ∧ (parseMethodDescriptor yX2_start.desc).map (fun d => d.parameters.length) = some 3 := by decide +kernel
theorem kO_X2_start : Cond.instanceMethod yX2_start ∈ T0 := T0_mem (i := 509) (by decide +kernel) (by decide +kernel)
theorem kV_X2_start : Cond.selects RX2 yX2_start yX2_start ∈ T0 := T0_mem (i := 510) (by decide +kernel) (by decide +kernel)
theorem kC_X2_isPrinting : Cond.code yX2_isPrinting cX2_isPrinting 1 (some .boolean) ∈ T0 := T0_mem (i := 444) (by decide +kernel) (by decide +kernel)
theorem kM_RX4_120 : Cond.methodLink RX4 120 yX2_isPrinting ∈ T0 := T0_mem (i := 441) (by decide +kernel) (by decide +kernel)
theorem hd_X2_isPrinting : yX2_isPrinting.cls ≠ "java/lang/invoke/MethodHandle" ∧ yX2_isPrinting.cls ≠ "java/lang/invoke/VarHandle" ∧ (parseMethodDescriptor yX2_isPrinting.desc).map (fun d => d.parameters.length) = some 0 := by decide +kernel
theorem kO_X2_isPrinting : Cond.instanceMethod yX2_isPrinting ∈ T0 := T0_mem (i := 442) (by decide +kernel) (by decide +kernel)
theorem kV_X2_isPrinting : Cond.selects RX2 yX2_isPrinting yX2_isPrinting ∈ T0 := T0_mem (i := 443) (by decide +kernel) (by decide +kernel)
theorem kF_RX4_157 : Cond.fieldLinkNest RX4 157 RX2 (TX2 5).2.1 (TX2 5).2.2.1 "StitchBanner" ∈ T0 := T0_mem (i := 71) (by decide +kernel) (by decide +kernel)
theorem kC_X4_takeFirstWaiting : Cond.code yX4_takeFirstWaiting cX4_takeFirstWaiting 9 none ∈ T0 := T0_mem (i := 503) (by decide +kernel) (by decide +kernel)
theorem kI_RX4 : Cond.initialized RX4 ∈ T0 := T0_mem (i := 33) (by decide +kernel) (by decide +kernel)
theorem kM_RX4_204 : Cond.methodLink RX4 204 yX4_takeFirstWaiting ∈ T0 := T0_mem (i := 500) (by decide +kernel) (by decide +kernel)
theorem hd_X4_takeFirstWaiting : yX4_takeFirstWaiting.cls ≠ "java/lang/invoke/MethodHandle" ∧ yX4_takeFirstWaiting.cls ≠ "java/lang/invoke/VarHandle" ∧ (parseMethodDescriptor yX4_takeFirstWaiting.desc).map (fun d => d.parameters.length) = some 2 := by decide +kernel
theorem kO_X4_takeFirstWaiting : Cond.instanceMethod yX4_takeFirstWaiting ∈ T0 := T0_mem (i := 502) (by decide +kernel) (by decide +kernel)
theorem kV_X4_takeFirstWaiting : Cond.selects RX4 yX4_takeFirstWaiting yX4_takeFirstWaiting ∈ T0 := T0_mem (i := 7) (by decide +kernel) (by decide +kernel)
theorem kF_RX4_25 : Cond.fieldLink RX4 25 RX4 (TX4 3).2.1 (TX4 3).2.2.1 ∈ T0 := T0_mem (i := 104) (by decide +kernel) (by decide +kernel)
theorem kC_X2_endsStrip : Cond.code yX2_endsStrip cX2_endsStrip 4 (some .boolean) ∈ T0 := T0_mem (i := 519) (by decide +kernel) (by decide +kernel)
theorem kM_RX4_218 : Cond.methodLink RX4 218 yX2_endsStrip ∈ T0 := T0_mem (i := 516) (by decide +kernel) (by decide +kernel)
theorem hd_X2_endsStrip : yX2_endsStrip.cls ≠ "java/lang/invoke/MethodHandle" ∧ yX2_endsStrip.cls ≠ "java/lang/invoke/VarHandle" ∧ (parseMethodDescriptor yX2_endsStrip.desc).map (fun d => d.parameters.length) = some 1 := by decide +kernel
theorem kO_X2_endsStrip : Cond.instanceMethod yX2_endsStrip ∈ T0 := T0_mem (i := 517) (by decide +kernel) (by decide +kernel)
theorem kV_X2_endsStrip : Cond.selects RX2 yX2_endsStrip yX2_endsStrip ∈ T0 := T0_mem (i := 518) (by decide +kernel) (by decide +kernel)
set_option maxHeartbeats 4000000 in
set_option maxRecDepth 100000 in
theorem met_X4_isRow (l : Launch) (x0 : Int32) : MI l yX4_isRow cX4_isRow 1 (some .boolean) 0 0 0 0 [.int x0] (wX4_isRow x0) := by
  refine MI.of (by decide) (Nat.le_of_ble_eq_true rfl) ?_
  intro p e s m below meth c D cs lo S Q ls B hr hlk hin
  intro h hl hw
  replace hl : lv_has ls 1 [(0, .int x0)] := hl
  refine lv_iload_n B.1.1 B.1.2.1 dX4_isRow_0 rfl (lv_at hl 0 rfl) ?_
  refine lv_if_lt (tgt := 14) B.1.1 B.1.2.1 dX4_isRow_1 (by decide) (fun hc => ?_) (fun hc => ?_)
  · replace hw := hw.1 hc
    refine lv_iconst (v := (0 : Int32)) B.1.1 B.1.2.1 dX4_isRow_14 (by decide) ?_
    exact q_zret B hr hlk h (by decide) hw dX4_isRow_15 (Nat.le_of_ble_eq_true rfl) (Nat.le_of_ble_eq_true rfl)
  · replace hw := hw.2 hc
    refine lv_iload_n B.1.1 B.1.2.1 dX4_isRow_4 rfl (lv_at hl 0 rfl) ?_
    refine lv_bipush (v := (8 : Int32)) B.1.1 B.1.2.1 dX4_isRow_5 (by decide) ?_
    refine lv_icmp_ge (tgt := 14) B.1.1 B.1.2.1 dX4_isRow_7 (by decide) (fun hc => ?_) (fun hc => ?_)
    · replace hw := hw.1 hc
      refine lv_iconst (v := (0 : Int32)) B.1.1 B.1.2.1 dX4_isRow_14 (by decide) ?_
      exact q_zret B hr hlk h (by decide) hw dX4_isRow_15 (Nat.le_of_ble_eq_true rfl) (Nat.le_of_ble_eq_true rfl)
    · replace hw := hw.2 hc
      refine lv_iconst (v := (1 : Int32)) B.1.1 B.1.2.1 dX4_isRow_10 (by decide) ?_
      refine lv_goto (tgt := 15) B.1.1 B.1.2.1 dX4_isRow_11 (by decide) ?_
      exact q_zret B hr hlk h (by decide) hw dX4_isRow_15 (Nat.le_of_ble_eq_true rfl) (Nat.le_of_ble_eq_true rfl)
set_option maxHeartbeats 4000000 in
set_option maxRecDepth 100000 in
theorem met_X4_isWithin (l : Launch) (x0 : Int32) (x1 : Int32) (x2 : Int32) : MI l yX4_isWithin cX4_isWithin 3 (some .boolean) 0 0 0 0 [.int x0, .int x1, .int x2] (wX4_isWithin x0 x1 x2) := by
  refine MI.of (by decide) (Nat.le_of_ble_eq_true rfl) ?_
  intro p e s m below meth c D cs lo S Q ls B hr hlk hin
  intro h hl hw
  replace hl : lv_has ls 3 [(0, .int x0), (1, .int x1), (2, .int x2)] := hl
  refine lv_iload_n B.1.1 B.1.2.1 dX4_isWithin_0 rfl (lv_at hl 0 rfl) ?_
  refine lv_iload_n B.1.1 B.1.2.1 dX4_isWithin_1 rfl (lv_at hl 1 rfl) ?_
  refine lv_icmp_lt (tgt := 14) B.1.1 B.1.2.1 dX4_isWithin_2 (by decide) (fun hc => ?_) (fun hc => ?_)
  · replace hw := hw.1 hc
    refine lv_iconst (v := (0 : Int32)) B.1.1 B.1.2.1 dX4_isWithin_14 (by decide) ?_
    exact q_zret B hr hlk h (by decide) hw dX4_isWithin_15 (Nat.le_of_ble_eq_true rfl) (Nat.le_of_ble_eq_true rfl)
  · replace hw := hw.2 hc
    refine lv_iload_n B.1.1 B.1.2.1 dX4_isWithin_5 rfl (lv_at hl 0 rfl) ?_
    refine lv_iload_n B.1.1 B.1.2.1 dX4_isWithin_6 rfl (lv_at hl 2 rfl) ?_
    refine lv_icmp_gt (tgt := 14) B.1.1 B.1.2.1 dX4_isWithin_7 (by decide) (fun hc => ?_) (fun hc => ?_)
    · replace hw := hw.1 hc
      refine lv_iconst (v := (0 : Int32)) B.1.1 B.1.2.1 dX4_isWithin_14 (by decide) ?_
      exact q_zret B hr hlk h (by decide) hw dX4_isWithin_15 (Nat.le_of_ble_eq_true rfl) (Nat.le_of_ble_eq_true rfl)
    · replace hw := hw.2 hc
      refine lv_iconst (v := (1 : Int32)) B.1.1 B.1.2.1 dX4_isWithin_10 (by decide) ?_
      refine lv_goto (tgt := 15) B.1.1 B.1.2.1 dX4_isWithin_11 (by decide) ?_
      exact q_zret B hr hlk h (by decide) hw dX4_isWithin_15 (Nat.le_of_ble_eq_true rfl) (Nat.le_of_ble_eq_true rfl)
set_option maxHeartbeats 4000000 in
set_option maxRecDepth 100000 in
theorem met_X4_bannerAt (l : Launch) (a0 : Nat) (x1 : Int32) : MO l yX4_bannerAt cX4_bannerAt 2 (some (.object "StitchBanner$Banner")) 0 0 0 0 [.ref a0, .int x1] (wX4_bannerAt a0 x1) := by
  refine MO.of (by decide) (Nat.le_of_ble_eq_true rfl) ?_
  intro p e s m below meth c D cs lo S Q ls B hr hlk hin
  intro h hl hw
  replace hl : lv_has ls 2 [(0, .ref a0), (1, .int x1)] := hl
  refine lv_iload_n B.1.1 B.1.2.1 dX4_bannerAt_0 rfl (lv_at hl 1 rfl) ?_
  refine lv_if_lt (tgt := 22) B.1.1 B.1.2.1 dX4_bannerAt_1 (by decide) (fun hc => ?_) (fun hc => ?_)
  · replace hw := hw.1 hc
    refine lv_null B.1.1 B.1.2.1 dX4_bannerAt_22 ?_
    exact q_aret B (v := none) hr hlk h hw dX4_bannerAt_23 (Nat.le_of_ble_eq_true rfl) (Nat.le_of_ble_eq_true rfl)
  · replace hw := hw.2 hc
    refine lv_iload_n B.1.1 B.1.2.1 dX4_bannerAt_4 rfl (lv_at hl 1 rfl) ?_
    refine lv_aload_n B.1.1 B.1.2.1 dX4_bannerAt_5 rfl (lv_at hl 0 rfl) ?_
    obtain ⟨hok, hw⟩ := hw
    refine q_getR B h (ci := 4) (j := 0) (code := 128) rfl inT_4 (by decide) kF_RX4_11 rfl rfl rfl (by decide) dX4_bannerAt_6 hok.1 hok.2 ?_
    obtain ⟨o1, hoo1⟩ : ∃ z, z = gR S 128 a0 := ⟨_, rfl⟩
    rw [← hoo1]
    replace hw := hw o1 hoo1
    obtain ⟨q1, hn, hw⟩ := hw
    subst hn
    replace hl : lv_has ls 2 [(0, .ref a0), (1, .int x1)] := hl
    obtain ⟨hok, hw⟩ := hw
    refine q_alen B h dX4_bannerAt_9 hok.1 (by rw [hok.2]; decide) (by rw [hok.2]; decide) ?_
    refine lv_icmp_ge (tgt := 22) B.1.1 B.1.2.1 dX4_bannerAt_10 (by decide) (fun hc => ?_) (fun hc => ?_)
    · replace hw := hw.1 hc
      refine lv_null B.1.1 B.1.2.1 dX4_bannerAt_22 ?_
      exact q_aret B (v := none) hr hlk h hw dX4_bannerAt_23 (Nat.le_of_ble_eq_true rfl) (Nat.le_of_ble_eq_true rfl)
    · replace hw := hw.2 hc
      refine lv_aload_n B.1.1 B.1.2.1 dX4_bannerAt_13 rfl (lv_at hl 0 rfl) ?_
      obtain ⟨hok, hw⟩ := hw
      refine q_getR B h (ci := 4) (j := 0) (code := 128) rfl inT_4 (by decide) kF_RX4_11 rfl rfl rfl (by decide) dX4_bannerAt_14 hok.1 hok.2 ?_
      obtain ⟨o2, hoo2⟩ : ∃ z, z = gR S 128 a0 := ⟨_, rfl⟩
      rw [← hoo2]
      replace hw := hw o2 hoo2
      refine lv_iload_n B.1.1 B.1.2.1 dX4_bannerAt_17 rfl (lv_at hl 1 rfl) ?_
      obtain ⟨q2, hn, hw⟩ := hw
      subst hn
      replace hl : lv_has ls 2 [(0, .ref a0), (1, .int x1)] := hl
      obtain ⟨hok, hin9, hw⟩ := hw
      refine q_aald B h (kd := 8) (by decide) (by decide) rfl dX4_bannerAt_18 hok.1 hok.2 hin9 ?_
      obtain ⟨o3, hoo3⟩ : ∃ z, z = gQ S q2 x1.toNatClampNeg := ⟨_, rfl⟩
      rw [← hoo3]
      replace hw := hw o3 hoo3
      refine lv_goto (tgt := 23) B.1.1 B.1.2.1 dX4_bannerAt_19 (by decide) ?_
      exact q_aret B (v := o3) hr hlk h hw dX4_bannerAt_23 (Nat.le_of_ble_eq_true rfl) (Nat.le_of_ble_eq_true rfl)
set_option maxHeartbeats 4000000 in
set_option maxRecDepth 100000 in
theorem met_X4_printerAt (l : Launch) (a0 : Nat) (x1 : Int32) : MO l yX4_printerAt cX4_printerAt 2 (some (.object "StitchBanner$Printer")) 0 0 0 0 [.ref a0, .int x1] (wX4_printerAt a0 x1) := by
  refine MO.of (by decide) (Nat.le_of_ble_eq_true rfl) ?_
  intro p e s m below meth c D cs lo S Q ls B hr hlk hin
  intro h hl hw
  replace hl : lv_has ls 2 [(0, .ref a0), (1, .int x1)] := hl
  refine lv_iload_n B.1.1 B.1.2.1 dX4_printerAt_0 rfl (lv_at hl 1 rfl) ?_
  refine lv_if_lt (tgt := 22) B.1.1 B.1.2.1 dX4_printerAt_1 (by decide) (fun hc => ?_) (fun hc => ?_)
  · replace hw := hw.1 hc
    refine lv_null B.1.1 B.1.2.1 dX4_printerAt_22 ?_
    exact q_aret B (v := none) hr hlk h hw dX4_printerAt_23 (Nat.le_of_ble_eq_true rfl) (Nat.le_of_ble_eq_true rfl)
  · replace hw := hw.2 hc
    refine lv_iload_n B.1.1 B.1.2.1 dX4_printerAt_4 rfl (lv_at hl 1 rfl) ?_
    refine lv_aload_n B.1.1 B.1.2.1 dX4_printerAt_5 rfl (lv_at hl 0 rfl) ?_
    obtain ⟨hok, hw⟩ := hw
    refine q_getR B h (ci := 4) (j := 1) (code := 129) rfl inT_4 (by decide) kF_RX4_17 rfl rfl rfl (by decide) dX4_printerAt_6 hok.1 hok.2 ?_
    obtain ⟨o1, hoo1⟩ : ∃ z, z = gR S 129 a0 := ⟨_, rfl⟩
    rw [← hoo1]
    replace hw := hw o1 hoo1
    obtain ⟨q1, hn, hw⟩ := hw
    subst hn
    replace hl : lv_has ls 2 [(0, .ref a0), (1, .int x1)] := hl
    obtain ⟨hok, hw⟩ := hw
    refine q_alen B h dX4_printerAt_9 hok.1 (by rw [hok.2]; decide) (by rw [hok.2]; decide) ?_
    refine lv_icmp_ge (tgt := 22) B.1.1 B.1.2.1 dX4_printerAt_10 (by decide) (fun hc => ?_) (fun hc => ?_)
    · replace hw := hw.1 hc
      refine lv_null B.1.1 B.1.2.1 dX4_printerAt_22 ?_
      exact q_aret B (v := none) hr hlk h hw dX4_printerAt_23 (Nat.le_of_ble_eq_true rfl) (Nat.le_of_ble_eq_true rfl)
    · replace hw := hw.2 hc
      refine lv_aload_n B.1.1 B.1.2.1 dX4_printerAt_13 rfl (lv_at hl 0 rfl) ?_
      obtain ⟨hok, hw⟩ := hw
      refine q_getR B h (ci := 4) (j := 1) (code := 129) rfl inT_4 (by decide) kF_RX4_17 rfl rfl rfl (by decide) dX4_printerAt_14 hok.1 hok.2 ?_
      obtain ⟨o2, hoo2⟩ : ∃ z, z = gR S 129 a0 := ⟨_, rfl⟩
      rw [← hoo2]
      replace hw := hw o2 hoo2
      refine lv_iload_n B.1.1 B.1.2.1 dX4_printerAt_17 rfl (lv_at hl 1 rfl) ?_
      obtain ⟨q2, hn, hw⟩ := hw
      subst hn
      replace hl : lv_has ls 2 [(0, .ref a0), (1, .int x1)] := hl
      obtain ⟨hok, hin9, hw⟩ := hw
      refine q_aald B h (kd := 9) (by decide) (by decide) rfl dX4_printerAt_18 hok.1 hok.2 hin9 ?_
      obtain ⟨o3, hoo3⟩ : ∃ z, z = gQ S q2 x1.toNatClampNeg := ⟨_, rfl⟩
      rw [← hoo3]
      replace hw := hw o3 hoo3
      refine lv_goto (tgt := 23) B.1.1 B.1.2.1 dX4_printerAt_19 (by decide) ?_
      exact q_aret B (v := o3) hr hlk h hw dX4_printerAt_23 (Nat.le_of_ble_eq_true rfl) (Nat.le_of_ble_eq_true rfl)
set_option maxHeartbeats 4000000 in
set_option maxRecDepth 100000 in
theorem met_X4_stripAt (l : Launch) (p0 : Option Nat) (x1 : Int32) : MO l yX4_stripAt cX4_stripAt 2 (some (.object "StitchBanner$Strip")) 1 21 0 0 [va_rf p0, .int x1] (wX4_stripAt p0 x1) := by
  refine MO.of (by decide) (by simp [lg_sl, rf_cat, cat_i, cat_r, cat_n, cat_j, cat_f, cat_d]) ?_
  intro p e s m below meth c D cs lo S Q ls B hr hlk hin
  intro h hl hw
  replace hl : lv_has ls 2 [(0, va_rf p0), (1, .int x1)] := by simpa [lv_args, rf_cat, cat_i, cat_r, cat_n, cat_j, cat_f, cat_d] using hl
  refine q_aload_n B.1.1 B.1.2.1 dX4_stripAt_0 rfl (lv_at hl 0 rfl) ?_
  refine q_ifnonnull (tgt := 8) B.1.1 B.1.2.1 dX4_stripAt_1 (by decide) (fun hn => ?_) (fun q1 hn => ?_)
  · replace hw := hw.1 hn
    subst hn
    replace hl : lv_has ls 2 [(0, .null), (1, .int x1)] := hl
    refine lv_null B.1.1 B.1.2.1 dX4_stripAt_4 ?_
    refine lv_goto (tgt := 13) B.1.1 B.1.2.1 dX4_stripAt_5 (by decide) ?_
    exact q_aret B (v := none) hr hlk h hw dX4_stripAt_13 (Nat.le_of_ble_eq_true rfl) (Nat.le_of_ble_eq_true rfl)
  · replace hw := hw.2 q1 hn
    subst hn
    replace hl : lv_has ls 2 [(0, .ref q1), (1, .int x1)] := hl
    refine lv_aload_n B.1.1 B.1.2.1 dX4_stripAt_8 rfl (lv_at hl 0 rfl) ?_
    refine lv_iload_n B.1.1 B.1.2.1 dX4_stripAt_9 rfl (lv_at hl 1 rfl) ?_
    obtain ⟨hok, hw⟩ := hw
    refine q_callOV B h (met_X0_stripOf l q1 x1) (CB B 1 kC_X0_stripOf kI_RX0 kM_RX4_221 hd_X0_stripOf ⟨Nat.le_of_ble_eq_true rfl, Nat.le_of_ble_eq_true rfl⟩) kO_X0_stripOf kV_X0_stripOf (ci := 0) rfl (by decide) hok.1 hok.2 (rest := []) rfl rfl hl.1 (Nat.le_of_ble_eq_true rfl) dX4_stripAt_10 ⟨Nat.le_of_ble_eq_true rfl, Nat.le_of_ble_eq_true rfl⟩ hw (fun o1 S1 H locs hw9 h9 => ?_)
    replace hw := hw9
    clear hw9
    replace h := h9
    clear h9
    exact q_aret B (v := o1) hr hlk h hw dX4_stripAt_13 (Nat.le_of_ble_eq_true rfl) (Nat.le_of_ble_eq_true rfl)
set_option maxHeartbeats 4000000 in
set_option maxRecDepth 100000 in
theorem met_X4_takeFirstWaiting (l : Launch) (a0 : Nat) (p1 : Option Nat) (x2 : Int32) : MV l yX4_takeFirstWaiting cX4_takeFirstWaiting 9 none 1 23 0 0 [.ref a0, va_rf p1, .int x2] (wX4_takeFirstWaiting a0 p1 x2) := by
  refine MV.of (by decide) (by simp [lg_sl, rf_cat, cat_i, cat_r, cat_n, cat_j, cat_f, cat_d]) ?_
  intro p e s m below meth c D cs lo S Q ls B hr hlk hin
  have L11 : ∀ (c0 : Nat) (c1 : Option Nat) (c2 : Int32) (K : Option Nat → Option Nat → Int32 → Int32 → HS → Prop) (n : Nat) (m3 : Option Nat) (m4 : Option Nat) (m5 : Int32) (m6 : Int32) (S : HS) (H : Heap) (locs : List Loc) (ls : Array Slot), Hx D cs lo s S H locs → lv_has ls 9 [(0, .ref c0), (1, va_rf c1), (2, .int c2), (3, va_rf m3), (4, va_rf m4), (5, .int m5), (6, .int m6)] → wX4_takeFirstWaiting_L11 c0 c1 c2 n m3 m4 m5 m6 S K → (∀ (m3 : Option Nat) (m4 : Option Nat) (m5 : Int32) (m6 : Int32) (S : HS) (H : Heap) (locs : List Loc) (ls : Array Slot), Hx D cs lo s S H locs → lv_has ls 9 [(0, .ref c0), (1, va_rf c1), (2, .int c2), (3, va_rf m3), (4, va_rf m4), (5, .int m5), (6, .int m6)] → K m3 m4 m5 m6 S → W p l e ({ frames := 1, cells := 0, slots := 0, locals := 23 } : Room) s m [.ref a0, va_rf p1, .int x2].toArray below meth c H locs 0 0 (MQ below (va_Qv Q (fun S' t => hp D cs lo S' t.heap) (fun q => lo ≤ q)) [.ref a0, va_rf p1, .int x2].toArray s 0 0 (fun q => lo ≤ q)) (F0 m 84 ls [])) → W p l e ({ frames := 1, cells := 0, slots := 0, locals := 23 } : Room) s m [.ref a0, va_rf p1, .int x2].toArray below meth c H locs 0 0 (MQ below (va_Qv Q (fun S' t => hp D cs lo S' t.heap) (fun q => lo ≤ q)) [.ref a0, va_rf p1, .int x2].toArray s 0 0 (fun q => lo ≤ q)) (F0 m 11 ls []) := by
    intro c0 c1 c2 K n
    induction n with
    | zero => intro m3 m4 m5 m6 S H locs ls h hl hw hk; exact False.elim hw
    | succ n ih =>
      intro m3 m4 m5 m6 S H locs ls h hl hw hk
      refine lv_iload B.1.1 B.1.2.1 dX4_takeFirstWaiting_11 (lv_at hl 6 rfl) ?_
      refine lv_aload_n B.1.1 B.1.2.1 dX4_takeFirstWaiting_13 rfl (lv_at hl 0 rfl) ?_
      obtain ⟨hok, hw⟩ := hw
      refine q_getR B h (ci := 4) (j := 0) (code := 128) rfl inT_4 (by decide) kF_RX4_11 rfl rfl rfl (by decide) dX4_takeFirstWaiting_14 hok.1 hok.2 ?_
      obtain ⟨o1, hoo1⟩ : ∃ z, z = gR S 128 c0 := ⟨_, rfl⟩
      rw [← hoo1]
      replace hw := hw o1 hoo1
      obtain ⟨q1, hn, hw⟩ := hw
      subst hn
      replace hl : lv_has ls 9 [(0, .ref c0), (1, va_rf c1), (2, .int c2), (3, va_rf m3), (4, va_rf m4), (5, .int m5), (6, .int m6)] := hl
      obtain ⟨hok, hw⟩ := hw
      refine q_alen B h dX4_takeFirstWaiting_17 hok.1 (by rw [hok.2]; decide) (by rw [hok.2]; decide) ?_
      refine lv_icmp_ge (tgt := 84) B.1.1 B.1.2.1 dX4_takeFirstWaiting_18 (by decide) (fun hc => ?_) (fun hc => ?_)
      · replace hw := hw.1 hc
        exact hk m3 m4 m5 m6 _ _ _ ls h (lv_sub hl [0, 1, 2, 3, 4, 5, 6] rfl) hw
      · replace hw := hw.2 hc
        refine lv_aload_n B.1.1 B.1.2.1 dX4_takeFirstWaiting_21 rfl (lv_at hl 0 rfl) ?_
        obtain ⟨hok, hw⟩ := hw
        refine q_getR B h (ci := 4) (j := 0) (code := 128) rfl inT_4 (by decide) kF_RX4_11 rfl rfl rfl (by decide) dX4_takeFirstWaiting_22 hok.1 hok.2 ?_
        obtain ⟨o2, hoo2⟩ : ∃ z, z = gR S 128 c0 := ⟨_, rfl⟩
        rw [← hoo2]
        replace hw := hw o2 hoo2
        refine lv_iload B.1.1 B.1.2.1 dX4_takeFirstWaiting_25 (lv_at hl 6 rfl) ?_
        obtain ⟨q2, hn, hw⟩ := hw
        subst hn
        replace hl : lv_has ls 9 [(0, .ref c0), (1, va_rf c1), (2, .int c2), (3, va_rf m3), (4, va_rf m4), (5, .int m5), (6, .int m6)] := hl
        obtain ⟨hok, hin9, hw⟩ := hw
        refine q_aald B h (kd := 8) (by decide) (by decide) rfl dX4_takeFirstWaiting_27 hok.1 hok.2 hin9 ?_
        obtain ⟨o3, hoo3⟩ : ∃ z, z = gQ S q2 m6.toNatClampNeg := ⟨_, rfl⟩
        rw [← hoo3]
        replace hw := hw o3 hoo3
        refine q_astore (i := 7) (lv' := [(7, va_rf o3), (0, .ref c0), (1, va_rf c1), (2, .int c2), (3, va_rf m3), (4, va_rf m4), (5, .int m5), (6, .int m6)]) B.1.1 B.1.2.1 dX4_takeFirstWaiting_28 hl (by decide) rfl (fun ls hl9 => ?_)
        replace hl := hl9
        clear hl9
        refine q_aload B.1.1 B.1.2.1 dX4_takeFirstWaiting_30 (lv_at hl 0 rfl) ?_
        refine q_ifnull (tgt := 78) B.1.1 B.1.2.1 dX4_takeFirstWaiting_32 (by decide) (fun hn => ?_) (fun q3 hn => ?_)
        · replace hw := hw.1 hn
          subst hn
          replace hl : lv_has ls 9 [(7, .null), (0, .ref c0), (1, va_rf c1), (2, .int c2), (3, va_rf m3), (4, va_rf m4), (5, .int m5), (6, .int m6)] := hl
          refine lv_iinc (i := 6) (v := (m6 + (1 : Int32))) (lv' := [(6, .int (m6 + (1 : Int32))), (7, .null), (0, .ref c0), (1, va_rf c1), (2, .int c2), (3, va_rf m3), (4, va_rf m4), (5, .int m5)]) B.1.1 B.1.2.1 dX4_takeFirstWaiting_78 hl (k := 7) rfl rfl (by decide) rfl (fun ls hl9 => ?_)
          replace hl := hl9
          clear hl9
          refine lv_goto (tgt := 11) B.1.1 B.1.2.1 dX4_takeFirstWaiting_81 (by decide) ?_
          exact ih m3 m4 m5 (m6 + (1 : Int32)) _ _ _ ls h (lv_sub hl [2, 3, 4, 5, 6, 7, 0] rfl) hw hk
        · replace hw := hw.2 q3 hn
          subst hn
          replace hl : lv_has ls 9 [(7, .ref q3), (0, .ref c0), (1, va_rf c1), (2, .int c2), (3, va_rf m3), (4, va_rf m4), (5, .int m5), (6, .int m6)] := hl
          refine q_aload_n B.1.1 B.1.2.1 dX4_takeFirstWaiting_35 rfl (lv_at hl 4 rfl) ?_
          refine q_ifnull (tgt := 54) B.1.1 B.1.2.1 dX4_takeFirstWaiting_36 (by decide) (fun hn => ?_) (fun q4 hn => ?_)
          · replace hw := hw.1 hn
            subst hn
            replace hl : lv_has ls 9 [(7, .ref q3), (0, .ref c0), (1, va_rf c1), (2, .int c2), (3, .null), (4, va_rf m4), (5, .int m5), (6, .int m6)] := hl
            refine lv_aload B.1.1 B.1.2.1 dX4_takeFirstWaiting_54 (lv_at hl 0 rfl) ?_
            refine lv_iload_n B.1.1 B.1.2.1 dX4_takeFirstWaiting_56 rfl (lv_at hl 3 rfl) ?_
            obtain ⟨hok, hw⟩ := hw
            refine q_callOV B h (met_X0_firstWaitingFor l q3 c2) (CB B 1 kC_X0_firstWaitingFor kI_RX0 kM_RX4_210 hd_X0_firstWaitingFor ⟨Nat.le_of_ble_eq_true rfl, Nat.le_of_ble_eq_true rfl⟩) kO_X0_firstWaitingFor kV_X0_firstWaitingFor (ci := 0) rfl (by decide) hok.1 hok.2 (rest := []) rfl rfl hl.1 (Nat.le_of_ble_eq_true rfl) dX4_takeFirstWaiting_57 ⟨Nat.le_of_ble_eq_true rfl, Nat.le_of_ble_eq_true rfl⟩ hw (fun o4 S1 H locs hw9 h9 => ?_)
            replace hw := hw9
            clear hw9
            replace h := h9
            clear h9
            refine q_astore (i := 8) (lv' := [(8, va_rf o4), (7, .ref q3), (0, .ref c0), (1, va_rf c1), (2, .int c2), (3, .null), (4, va_rf m4), (5, .int m5), (6, .int m6)]) B.1.1 B.1.2.1 dX4_takeFirstWaiting_60 hl (by decide) rfl (fun ls hl9 => ?_)
            replace hl := hl9
            clear hl9
            refine q_aload B.1.1 B.1.2.1 dX4_takeFirstWaiting_62 (lv_at hl 0 rfl) ?_
            refine q_ifnull (tgt := 78) B.1.1 B.1.2.1 dX4_takeFirstWaiting_64 (by decide) (fun hn => ?_) (fun q5 hn => ?_)
            · replace hw := hw.1 hn
              subst hn
              replace hl : lv_has ls 9 [(8, .null), (7, .ref q3), (0, .ref c0), (1, va_rf c1), (2, .int c2), (3, .null), (4, va_rf m4), (5, .int m5), (6, .int m6)] := hl
              refine lv_iinc (i := 6) (v := (m6 + (1 : Int32))) (lv' := [(6, .int (m6 + (1 : Int32))), (8, .null), (7, .ref q3), (0, .ref c0), (1, va_rf c1), (2, .int c2), (3, .null), (4, va_rf m4), (5, .int m5)]) B.1.1 B.1.2.1 dX4_takeFirstWaiting_78 hl (k := 8) rfl rfl (by decide) rfl (fun ls hl9 => ?_)
              replace hl := hl9
              clear hl9
              refine lv_goto (tgt := 11) B.1.1 B.1.2.1 dX4_takeFirstWaiting_81 (by decide) ?_
              exact ih none m4 m5 (m6 + (1 : Int32)) _ _ _ ls h (lv_sub hl [3, 4, 5, 6, 7, 8, 0] rfl) hw hk
            · replace hw := hw.2 q5 hn
              subst hn
              replace hl : lv_has ls 9 [(8, .ref q5), (7, .ref q3), (0, .ref c0), (1, va_rf c1), (2, .int c2), (3, .null), (4, va_rf m4), (5, .int m5), (6, .int m6)] := hl
              refine lv_aload B.1.1 B.1.2.1 dX4_takeFirstWaiting_67 (lv_at hl 1 rfl) ?_
              refine lv_astore_n (i := 3) (lv' := [(3, .ref q3), (8, .ref q5), (7, .ref q3), (0, .ref c0), (1, va_rf c1), (2, .int c2), (4, va_rf m4), (5, .int m5), (6, .int m6)]) B.1.1 B.1.2.1 dX4_takeFirstWaiting_69 rfl hl (by decide) rfl (fun ls hl9 => ?_)
              replace hl := hl9
              clear hl9
              refine lv_aload B.1.1 B.1.2.1 dX4_takeFirstWaiting_70 (lv_at hl 1 rfl) ?_
              refine lv_astore (i := 4) (lv' := [(4, .ref q5), (3, .ref q3), (8, .ref q5), (7, .ref q3), (0, .ref c0), (1, va_rf c1), (2, .int c2), (5, .int m5), (6, .int m6)]) B.1.1 B.1.2.1 dX4_takeFirstWaiting_72 hl (by decide) rfl (fun ls hl9 => ?_)
              replace hl := hl9
              clear hl9
              refine lv_iload B.1.1 B.1.2.1 dX4_takeFirstWaiting_74 (lv_at hl 8 rfl) ?_
              refine lv_istore (i := 5) (lv' := [(5, .int m6), (4, .ref q5), (3, .ref q3), (8, .ref q5), (7, .ref q3), (0, .ref c0), (1, va_rf c1), (2, .int c2), (6, .int m6)]) B.1.1 B.1.2.1 dX4_takeFirstWaiting_76 hl (by decide) rfl (fun ls hl9 => ?_)
              replace hl := hl9
              clear hl9
              refine lv_iinc (i := 6) (v := (m6 + (1 : Int32))) (lv' := [(6, .int (m6 + (1 : Int32))), (5, .int m6), (4, .ref q5), (3, .ref q3), (8, .ref q5), (7, .ref q3), (0, .ref c0), (1, va_rf c1), (2, .int c2)]) B.1.1 B.1.2.1 dX4_takeFirstWaiting_78 hl (k := 8) rfl rfl (by decide) rfl (fun ls hl9 => ?_)
              replace hl := hl9
              clear hl9
              refine lv_goto (tgt := 11) B.1.1 B.1.2.1 dX4_takeFirstWaiting_81 (by decide) ?_
              exact ih (some q3) (some q5) m6 (m6 + (1 : Int32)) _ _ _ ls h (lv_sub hl [6, 7, 8, 3, 2, 1, 0] rfl) hw hk
          · replace hw := hw.2 q4 hn
            subst hn
            replace hl : lv_has ls 9 [(7, .ref q3), (0, .ref c0), (1, va_rf c1), (2, .int c2), (3, .ref q4), (4, va_rf m4), (5, .int m5), (6, .int m6)] := hl
            refine lv_aload B.1.1 B.1.2.1 dX4_takeFirstWaiting_39 (lv_at hl 0 rfl) ?_
            obtain ⟨hok, hw⟩ := hw
            refine q_getIN B h (ci := 0) (j := 2) (code := 2) rfl inT_0 (by decide) kF_RX4_208 rfl rfl rfl (by decide) dX4_takeFirstWaiting_41 hok.1 hok.2 ?_
            refine lv_aload_n B.1.1 B.1.2.1 dX4_takeFirstWaiting_44 rfl (lv_at hl 4 rfl) ?_
            obtain ⟨hok, hw⟩ := hw
            refine q_getIN B h (ci := 0) (j := 2) (code := 2) rfl inT_0 (by decide) kF_RX4_208 rfl rfl rfl (by decide) dX4_takeFirstWaiting_45 hok.1 hok.2 ?_
            refine lv_icmp_lt (tgt := 54) B.1.1 B.1.2.1 dX4_takeFirstWaiting_48 (by decide) (fun hc => ?_) (fun hc => ?_)
            · replace hw := hw.1 hc
              refine lv_aload B.1.1 B.1.2.1 dX4_takeFirstWaiting_54 (lv_at hl 0 rfl) ?_
              refine lv_iload_n B.1.1 B.1.2.1 dX4_takeFirstWaiting_56 rfl (lv_at hl 3 rfl) ?_
              obtain ⟨hok, hw⟩ := hw
              refine q_callOV B h (met_X0_firstWaitingFor l q3 c2) (CB B 1 kC_X0_firstWaitingFor kI_RX0 kM_RX4_210 hd_X0_firstWaitingFor ⟨Nat.le_of_ble_eq_true rfl, Nat.le_of_ble_eq_true rfl⟩) kO_X0_firstWaitingFor kV_X0_firstWaitingFor (ci := 0) rfl (by decide) hok.1 hok.2 (rest := []) rfl rfl hl.1 (Nat.le_of_ble_eq_true rfl) dX4_takeFirstWaiting_57 ⟨Nat.le_of_ble_eq_true rfl, Nat.le_of_ble_eq_true rfl⟩ hw (fun o5 S2 H locs hw9 h9 => ?_)
              replace hw := hw9
              clear hw9
              replace h := h9
              clear h9
              refine q_astore (i := 8) (lv' := [(8, va_rf o5), (7, .ref q3), (0, .ref c0), (1, va_rf c1), (2, .int c2), (3, .ref q4), (4, va_rf m4), (5, .int m5), (6, .int m6)]) B.1.1 B.1.2.1 dX4_takeFirstWaiting_60 hl (by decide) rfl (fun ls hl9 => ?_)
              replace hl := hl9
              clear hl9
              refine q_aload B.1.1 B.1.2.1 dX4_takeFirstWaiting_62 (lv_at hl 0 rfl) ?_
              refine q_ifnull (tgt := 78) B.1.1 B.1.2.1 dX4_takeFirstWaiting_64 (by decide) (fun hn => ?_) (fun q6 hn => ?_)
              · replace hw := hw.1 hn
                subst hn
                replace hl : lv_has ls 9 [(8, .null), (7, .ref q3), (0, .ref c0), (1, va_rf c1), (2, .int c2), (3, .ref q4), (4, va_rf m4), (5, .int m5), (6, .int m6)] := hl
                refine lv_iinc (i := 6) (v := (m6 + (1 : Int32))) (lv' := [(6, .int (m6 + (1 : Int32))), (8, .null), (7, .ref q3), (0, .ref c0), (1, va_rf c1), (2, .int c2), (3, .ref q4), (4, va_rf m4), (5, .int m5)]) B.1.1 B.1.2.1 dX4_takeFirstWaiting_78 hl (k := 8) rfl rfl (by decide) rfl (fun ls hl9 => ?_)
                replace hl := hl9
                clear hl9
                refine lv_goto (tgt := 11) B.1.1 B.1.2.1 dX4_takeFirstWaiting_81 (by decide) ?_
                exact ih (some q4) m4 m5 (m6 + (1 : Int32)) _ _ _ ls h (lv_sub hl [3, 4, 5, 6, 7, 8, 0] rfl) hw hk
              · replace hw := hw.2 q6 hn
                subst hn
                replace hl : lv_has ls 9 [(8, .ref q6), (7, .ref q3), (0, .ref c0), (1, va_rf c1), (2, .int c2), (3, .ref q4), (4, va_rf m4), (5, .int m5), (6, .int m6)] := hl
                refine lv_aload B.1.1 B.1.2.1 dX4_takeFirstWaiting_67 (lv_at hl 1 rfl) ?_
                refine lv_astore_n (i := 3) (lv' := [(3, .ref q3), (8, .ref q6), (7, .ref q3), (0, .ref c0), (1, va_rf c1), (2, .int c2), (4, va_rf m4), (5, .int m5), (6, .int m6)]) B.1.1 B.1.2.1 dX4_takeFirstWaiting_69 rfl hl (by decide) rfl (fun ls hl9 => ?_)
                replace hl := hl9
                clear hl9
                refine lv_aload B.1.1 B.1.2.1 dX4_takeFirstWaiting_70 (lv_at hl 1 rfl) ?_
                refine lv_astore (i := 4) (lv' := [(4, .ref q6), (3, .ref q3), (8, .ref q6), (7, .ref q3), (0, .ref c0), (1, va_rf c1), (2, .int c2), (5, .int m5), (6, .int m6)]) B.1.1 B.1.2.1 dX4_takeFirstWaiting_72 hl (by decide) rfl (fun ls hl9 => ?_)
                replace hl := hl9
                clear hl9
                refine lv_iload B.1.1 B.1.2.1 dX4_takeFirstWaiting_74 (lv_at hl 8 rfl) ?_
                refine lv_istore (i := 5) (lv' := [(5, .int m6), (4, .ref q6), (3, .ref q3), (8, .ref q6), (7, .ref q3), (0, .ref c0), (1, va_rf c1), (2, .int c2), (6, .int m6)]) B.1.1 B.1.2.1 dX4_takeFirstWaiting_76 hl (by decide) rfl (fun ls hl9 => ?_)
                replace hl := hl9
                clear hl9
                refine lv_iinc (i := 6) (v := (m6 + (1 : Int32))) (lv' := [(6, .int (m6 + (1 : Int32))), (5, .int m6), (4, .ref q6), (3, .ref q3), (8, .ref q6), (7, .ref q3), (0, .ref c0), (1, va_rf c1), (2, .int c2)]) B.1.1 B.1.2.1 dX4_takeFirstWaiting_78 hl (k := 8) rfl rfl (by decide) rfl (fun ls hl9 => ?_)
                replace hl := hl9
                clear hl9
                refine lv_goto (tgt := 11) B.1.1 B.1.2.1 dX4_takeFirstWaiting_81 (by decide) ?_
                exact ih (some q3) (some q6) m6 (m6 + (1 : Int32)) _ _ _ ls h (lv_sub hl [6, 7, 8, 3, 2, 1, 0] rfl) hw hk
            · replace hw := hw.2 hc
              refine lv_goto (tgt := 78) B.1.1 B.1.2.1 dX4_takeFirstWaiting_51 (by decide) ?_
              refine lv_iinc (i := 6) (v := (m6 + (1 : Int32))) (lv' := [(6, .int (m6 + (1 : Int32))), (7, .ref q3), (0, .ref c0), (1, va_rf c1), (2, .int c2), (3, .ref q4), (4, va_rf m4), (5, .int m5)]) B.1.1 B.1.2.1 dX4_takeFirstWaiting_78 hl (k := 7) rfl rfl (by decide) rfl (fun ls hl9 => ?_)
              replace hl := hl9
              clear hl9
              refine lv_goto (tgt := 11) B.1.1 B.1.2.1 dX4_takeFirstWaiting_81 (by decide) ?_
              exact ih (some q4) m4 m5 (m6 + (1 : Int32)) _ _ _ ls h (lv_sub hl [2, 3, 4, 5, 6, 7, 0] rfl) hw hk
  intro h hl hw
  replace hl : lv_has ls 9 [(0, .ref a0), (1, va_rf p1), (2, .int x2)] := by simpa [lv_args, rf_cat, cat_i, cat_r, cat_n, cat_j, cat_f, cat_d] using hl
  refine lv_null B.1.1 B.1.2.1 dX4_takeFirstWaiting_0 ?_
  refine q_astore_n (o := none) (i := 3) (lv' := [(3, .null), (0, .ref a0), (1, va_rf p1), (2, .int x2)]) B.1.1 B.1.2.1 dX4_takeFirstWaiting_1 rfl hl (by decide) rfl (fun ls hl9 => ?_)
  replace hl := hl9
  clear hl9
  refine lv_null B.1.1 B.1.2.1 dX4_takeFirstWaiting_2 ?_
  refine q_astore (o := none) (i := 4) (lv' := [(4, .null), (3, .null), (0, .ref a0), (1, va_rf p1), (2, .int x2)]) B.1.1 B.1.2.1 dX4_takeFirstWaiting_3 hl (by decide) rfl (fun ls hl9 => ?_)
  replace hl := hl9
  clear hl9
  refine lv_iconst (v := (-1 : Int32)) B.1.1 B.1.2.1 dX4_takeFirstWaiting_5 (by decide) ?_
  refine lv_istore (i := 5) (lv' := [(5, .int (-1 : Int32)), (4, .null), (3, .null), (0, .ref a0), (1, va_rf p1), (2, .int x2)]) B.1.1 B.1.2.1 dX4_takeFirstWaiting_6 hl (by decide) rfl (fun ls hl9 => ?_)
  replace hl := hl9
  clear hl9
  refine lv_iconst (v := (0 : Int32)) B.1.1 B.1.2.1 dX4_takeFirstWaiting_8 (by decide) ?_
  refine lv_istore (i := 6) (lv' := [(6, .int (0 : Int32)), (5, .int (-1 : Int32)), (4, .null), (3, .null), (0, .ref a0), (1, va_rf p1), (2, .int x2)]) B.1.1 B.1.2.1 dX4_takeFirstWaiting_9 hl (by decide) rfl (fun ls hl9 => ?_)
  replace hl := hl9
  clear hl9
  obtain ⟨n1, hw⟩ := hw
  refine L11 a0 p1 x2 _ n1 none none (-1 : Int32) (0 : Int32) _ _ _ ls h (lv_sub hl [4, 5, 6, 3, 2, 1, 0] rfl) hw (fun u1 u2 u3 u4 S3 H locs ls h9 hl9 hw9 => ?_)
  replace hw := hw9
  clear hw9
  replace h := h9
  clear h9
  replace hl := hl9
  clear hl9
  refine q_aload_n B.1.1 B.1.2.1 dX4_takeFirstWaiting_84 rfl (lv_at hl 3 rfl) ?_
  refine q_ifnull (tgt := 102) B.1.1 B.1.2.1 dX4_takeFirstWaiting_85 (by decide) (fun hn => ?_) (fun q7 hn => ?_)
  · replace hw := hw.1 hn
    subst hn
    replace hl : lv_has ls 9 [(0, .ref a0), (1, va_rf p1), (2, .int x2), (3, .null), (4, va_rf u2), (5, .int u3), (6, .int u4)] := hl
    exact q_vret B hr hlk h hw dX4_takeFirstWaiting_102 (Nat.le_of_ble_eq_true rfl) (Nat.le_of_ble_eq_true rfl)
  · replace hw := hw.2 q7 hn
    subst hn
    replace hl : lv_has ls 9 [(0, .ref a0), (1, va_rf p1), (2, .int x2), (3, .ref q7), (4, va_rf u2), (5, .int u3), (6, .int u4)] := hl
    refine q_aload B.1.1 B.1.2.1 dX4_takeFirstWaiting_88 (lv_at hl 4 rfl) ?_
    refine q_ifnull (tgt := 102) B.1.1 B.1.2.1 dX4_takeFirstWaiting_90 (by decide) (fun hn => ?_) (fun q8 hn => ?_)
    · replace hw := hw.1 hn
      subst hn
      replace hl : lv_has ls 9 [(0, .ref a0), (1, va_rf p1), (2, .int x2), (3, .ref q7), (4, .null), (5, .int u3), (6, .int u4)] := hl
      exact q_vret B hr hlk h hw dX4_takeFirstWaiting_102 (Nat.le_of_ble_eq_true rfl) (Nat.le_of_ble_eq_true rfl)
    · replace hw := hw.2 q8 hn
      subst hn
      replace hl : lv_has ls 9 [(0, .ref a0), (1, va_rf p1), (2, .int x2), (3, .ref q7), (4, .ref q8), (5, .int u3), (6, .int u4)] := hl
      refine q_aload_n B.1.1 B.1.2.1 dX4_takeFirstWaiting_93 rfl (lv_at hl 1 rfl) ?_
      refine lv_aload_n B.1.1 B.1.2.1 dX4_takeFirstWaiting_94 rfl (lv_at hl 3 rfl) ?_
      refine lv_aload B.1.1 B.1.2.1 dX4_takeFirstWaiting_95 (lv_at hl 4 rfl) ?_
      refine lv_iload B.1.1 B.1.2.1 dX4_takeFirstWaiting_97 (lv_at hl 5 rfl) ?_
      obtain ⟨q9, hn, hw⟩ := hw
      subst hn
      replace hl : lv_has ls 9 [(0, .ref a0), (1, .ref q9), (2, .int x2), (3, .ref q7), (4, .ref q8), (5, .int u3), (6, .int u4)] := hl
      obtain ⟨hok, hw⟩ := hw
      refine q_callVV B h (met_X2_start l q9 (some q7) (some q8) u3) (CB B 3 kC_X2_start kI_RX2 kM_RX4_214 hd_X2_start ⟨Nat.le_of_ble_eq_true rfl, Nat.le_of_ble_eq_true rfl⟩) kO_X2_start kV_X2_start (ci := 2) rfl (by decide) hok.1 hok.2 (rest := []) rfl rfl hl.1 (Nat.le_of_ble_eq_true rfl) dX4_takeFirstWaiting_99 ⟨Nat.le_of_ble_eq_true rfl, Nat.le_of_ble_eq_true rfl⟩ hw (fun S4 H locs hw9 h9 => ?_)
      replace hw := hw9
      clear hw9
      replace h := h9
      clear h9
      exact q_vret B hr hlk h hw dX4_takeFirstWaiting_102 (Nat.le_of_ble_eq_true rfl) (Nat.le_of_ble_eq_true rfl)
set_option maxHeartbeats 4000000 in
set_option maxRecDepth 100000 in
theorem met_X4_startIdlePrinters (l : Launch) (a0 : Nat) : MV l yX4_startIdlePrinters cX4_startIdlePrinters 3 none 2 51 0 0 [.ref a0] (wX4_startIdlePrinters a0) := by
  refine MV.of (by decide) (Nat.le_of_ble_eq_true rfl) ?_
  intro p e s m below meth c D cs lo S Q ls B hr hlk hin
  have L2 : ∀ (c0 : Nat) (K : Int32 → HS → Prop) (n : Nat) (m1 : Int32) (S : HS) (H : Heap) (locs : List Loc) (ls : Array Slot), Hx D cs lo s S H locs → lv_has ls 3 [(0, .ref c0), (1, .int m1)] → wX4_startIdlePrinters_L2 c0 n m1 S K → (∀ (m1 : Int32) (S : HS) (H : Heap) (locs : List Loc) (ls : Array Slot), Hx D cs lo s S H locs → lv_has ls 3 [(0, .ref c0), (1, .int m1)] → K m1 S → W p l e ({ frames := 2, cells := 0, slots := 0, locals := 51 } : Room) s m [.ref a0].toArray below meth c H locs 0 0 (MQ below (va_Qv Q (fun S' t => hp D cs lo S' t.heap) (fun q => lo ≤ q)) [.ref a0].toArray s 0 0 (fun q => lo ≤ q)) (F0 m 48 ls [])) → W p l e ({ frames := 2, cells := 0, slots := 0, locals := 51 } : Room) s m [.ref a0].toArray below meth c H locs 0 0 (MQ below (va_Qv Q (fun S' t => hp D cs lo S' t.heap) (fun q => lo ≤ q)) [.ref a0].toArray s 0 0 (fun q => lo ≤ q)) (F0 m 2 ls []) := by
    intro c0 K n
    induction n with
    | zero => intro m1 S H locs ls h hl hw hk; exact False.elim hw
    | succ n ih =>
      intro m1 S H locs ls h hl hw hk
      refine lv_iload_n B.1.1 B.1.2.1 dX4_startIdlePrinters_2 rfl (lv_at hl 1 rfl) ?_
      refine lv_aload_n B.1.1 B.1.2.1 dX4_startIdlePrinters_3 rfl (lv_at hl 0 rfl) ?_
      obtain ⟨hok, hw⟩ := hw
      refine q_getR B h (ci := 4) (j := 1) (code := 129) rfl inT_4 (by decide) kF_RX4_17 rfl rfl rfl (by decide) dX4_startIdlePrinters_4 hok.1 hok.2 ?_
      obtain ⟨o1, hoo1⟩ : ∃ z, z = gR S 129 c0 := ⟨_, rfl⟩
      rw [← hoo1]
      replace hw := hw o1 hoo1
      obtain ⟨q1, hn, hw⟩ := hw
      subst hn
      replace hl : lv_has ls 3 [(0, .ref c0), (1, .int m1)] := hl
      obtain ⟨hok, hw⟩ := hw
      refine q_alen B h dX4_startIdlePrinters_7 hok.1 (by rw [hok.2]; decide) (by rw [hok.2]; decide) ?_
      refine lv_icmp_ge (tgt := 48) B.1.1 B.1.2.1 dX4_startIdlePrinters_8 (by decide) (fun hc => ?_) (fun hc => ?_)
      · replace hw := hw.1 hc
        exact hk m1 _ _ _ ls h (lv_sub hl [0, 1] rfl) hw
      · replace hw := hw.2 hc
        refine lv_aload_n B.1.1 B.1.2.1 dX4_startIdlePrinters_11 rfl (lv_at hl 0 rfl) ?_
        obtain ⟨hok, hw⟩ := hw
        refine q_getR B h (ci := 4) (j := 1) (code := 129) rfl inT_4 (by decide) kF_RX4_17 rfl rfl rfl (by decide) dX4_startIdlePrinters_12 hok.1 hok.2 ?_
        obtain ⟨o2, hoo2⟩ : ∃ z, z = gR S 129 c0 := ⟨_, rfl⟩
        rw [← hoo2]
        replace hw := hw o2 hoo2
        refine lv_iload_n B.1.1 B.1.2.1 dX4_startIdlePrinters_15 rfl (lv_at hl 1 rfl) ?_
        obtain ⟨q2, hn, hw⟩ := hw
        subst hn
        replace hl : lv_has ls 3 [(0, .ref c0), (1, .int m1)] := hl
        obtain ⟨hok, hin9, hw⟩ := hw
        refine q_aald B h (kd := 9) (by decide) (by decide) rfl dX4_startIdlePrinters_16 hok.1 hok.2 hin9 ?_
        obtain ⟨o3, hoo3⟩ : ∃ z, z = gQ S q2 m1.toNatClampNeg := ⟨_, rfl⟩
        rw [← hoo3]
        replace hw := hw o3 hoo3
        refine q_astore_n (i := 2) (lv' := [(2, va_rf o3), (0, .ref c0), (1, .int m1)]) B.1.1 B.1.2.1 dX4_startIdlePrinters_17 rfl hl (by decide) rfl (fun ls hl9 => ?_)
        replace hl := hl9
        clear hl9
        refine q_aload_n B.1.1 B.1.2.1 dX4_startIdlePrinters_18 rfl (lv_at hl 0 rfl) ?_
        refine q_ifnull (tgt := 42) B.1.1 B.1.2.1 dX4_startIdlePrinters_19 (by decide) (fun hn => ?_) (fun q3 hn => ?_)
        · replace hw := hw.1 hn
          subst hn
          replace hl : lv_has ls 3 [(2, .null), (0, .ref c0), (1, .int m1)] := hl
          refine lv_iinc (i := 1) (v := (m1 + (1 : Int32))) (lv' := [(1, .int (m1 + (1 : Int32))), (2, .null), (0, .ref c0)]) B.1.1 B.1.2.1 dX4_startIdlePrinters_42 hl (k := 2) rfl rfl (by decide) rfl (fun ls hl9 => ?_)
          replace hl := hl9
          clear hl9
          refine lv_goto (tgt := 2) B.1.1 B.1.2.1 dX4_startIdlePrinters_45 (by decide) ?_
          exact ih (m1 + (1 : Int32)) _ _ _ ls h (lv_sub hl [2, 0] rfl) hw hk
        · replace hw := hw.2 q3 hn
          subst hn
          replace hl : lv_has ls 3 [(2, .ref q3), (0, .ref c0), (1, .int m1)] := hl
          refine lv_aload_n B.1.1 B.1.2.1 dX4_startIdlePrinters_22 rfl (lv_at hl 0 rfl) ?_
          obtain ⟨hok, hw⟩ := hw
          refine q_callIV B h (met_X2_isPrinting l q3) (CB B 0 kC_X2_isPrinting kI_RX2 kM_RX4_120 hd_X2_isPrinting ⟨Nat.le_of_ble_eq_true rfl, Nat.le_of_ble_eq_true rfl⟩) kO_X2_isPrinting kV_X2_isPrinting (ci := 2) rfl (by decide) hok.1 hok.2 (rest := []) rfl rfl hl.1 (Nat.le_of_ble_eq_true rfl) dX4_startIdlePrinters_23 ⟨Nat.le_of_ble_eq_true rfl, Nat.le_of_ble_eq_true rfl⟩ hw (fun r1 S1 H locs hw9 h9 => ?_)
          replace hw := hw9
          clear hw9
          replace h := h9
          clear h9
          refine lv_if_ne (tgt := 42) B.1.1 B.1.2.1 dX4_startIdlePrinters_26 (by decide) (fun hc => ?_) (fun hc => ?_)
          · replace hw := hw.1 hc
            refine lv_iinc (i := 1) (v := (m1 + (1 : Int32))) (lv' := [(1, .int (m1 + (1 : Int32))), (2, .ref q3), (0, .ref c0)]) B.1.1 B.1.2.1 dX4_startIdlePrinters_42 hl (k := 2) rfl rfl (by decide) rfl (fun ls hl9 => ?_)
            replace hl := hl9
            clear hl9
            refine lv_goto (tgt := 2) B.1.1 B.1.2.1 dX4_startIdlePrinters_45 (by decide) ?_
            exact ih (m1 + (1 : Int32)) _ _ _ ls h (lv_sub hl [2, 0] rfl) hw hk
          · replace hw := hw.2 hc
            refine lv_aload_n B.1.1 B.1.2.1 dX4_startIdlePrinters_29 rfl (lv_at hl 0 rfl) ?_
            obtain ⟨hok, hw⟩ := hw
            refine q_getIN B h (ci := 2) (j := 5) (code := 69) rfl inT_2 (by decide) kF_RX4_157 rfl rfl rfl (by decide) dX4_startIdlePrinters_30 hok.1 hok.2 ?_
            refine lv_if_le (tgt := 42) B.1.1 B.1.2.1 dX4_startIdlePrinters_33 (by decide) (fun hc => ?_) (fun hc => ?_)
            · replace hw := hw.1 hc
              refine lv_iinc (i := 1) (v := (m1 + (1 : Int32))) (lv' := [(1, .int (m1 + (1 : Int32))), (2, .ref q3), (0, .ref c0)]) B.1.1 B.1.2.1 dX4_startIdlePrinters_42 hl (k := 2) rfl rfl (by decide) rfl (fun ls hl9 => ?_)
              replace hl := hl9
              clear hl9
              refine lv_goto (tgt := 2) B.1.1 B.1.2.1 dX4_startIdlePrinters_45 (by decide) ?_
              exact ih (m1 + (1 : Int32)) _ _ _ ls h (lv_sub hl [2, 0] rfl) hw hk
            · replace hw := hw.2 hc
              refine lv_aload_n B.1.1 B.1.2.1 dX4_startIdlePrinters_36 rfl (lv_at hl 1 rfl) ?_
              refine lv_aload_n B.1.1 B.1.2.1 dX4_startIdlePrinters_37 rfl (lv_at hl 0 rfl) ?_
              refine lv_iload_n B.1.1 B.1.2.1 dX4_startIdlePrinters_38 rfl (lv_at hl 2 rfl) ?_
              obtain ⟨hok, hw⟩ := hw
              refine q_callVV B h (met_X4_takeFirstWaiting l c0 (some q3) m1) (CB B 2 kC_X4_takeFirstWaiting kI_RX4 kM_RX4_204 hd_X4_takeFirstWaiting ⟨Nat.le_of_ble_eq_true rfl, Nat.le_of_ble_eq_true rfl⟩) kO_X4_takeFirstWaiting kV_X4_takeFirstWaiting (ci := 4) rfl (by decide) hok.1 hok.2 (rest := []) rfl rfl hl.1 (Nat.le_of_ble_eq_true rfl) dX4_startIdlePrinters_39 ⟨Nat.le_of_ble_eq_true rfl, Nat.le_of_ble_eq_true rfl⟩ hw (fun S2 H locs hw9 h9 => ?_)
              replace hw := hw9
              clear hw9
              replace h := h9
              clear h9
              refine lv_iinc (i := 1) (v := (m1 + (1 : Int32))) (lv' := [(1, .int (m1 + (1 : Int32))), (2, .ref q3), (0, .ref c0)]) B.1.1 B.1.2.1 dX4_startIdlePrinters_42 hl (k := 2) rfl rfl (by decide) rfl (fun ls hl9 => ?_)
              replace hl := hl9
              clear hl9
              refine lv_goto (tgt := 2) B.1.1 B.1.2.1 dX4_startIdlePrinters_45 (by decide) ?_
              exact ih (m1 + (1 : Int32)) _ _ _ ls h (lv_sub hl [2, 0] rfl) hw hk
  intro h hl hw
  replace hl : lv_has ls 3 [(0, .ref a0)] := hl
  refine lv_iconst (v := (0 : Int32)) B.1.1 B.1.2.1 dX4_startIdlePrinters_0 (by decide) ?_
  refine lv_istore_n (i := 1) (lv' := [(1, .int (0 : Int32)), (0, .ref a0)]) B.1.1 B.1.2.1 dX4_startIdlePrinters_1 rfl hl (by decide) rfl (fun ls hl9 => ?_)
  replace hl := hl9
  clear hl9
  obtain ⟨n1, hw⟩ := hw
  refine L2 a0 _ n1 (0 : Int32) _ _ _ ls h (lv_sub hl [1, 0] rfl) hw (fun u1 S3 H locs ls h9 hl9 hw9 => ?_)
  replace hw := hw9
  clear hw9
  replace h := h9
  clear h9
  replace hl := hl9
  clear hl9
  exact q_vret B hr hlk h hw dX4_startIdlePrinters_48 (Nat.le_of_ble_eq_true rfl) (Nat.le_of_ble_eq_true rfl)
set_option maxHeartbeats 4000000 in
set_option maxRecDepth 100000 in
theorem met_X4_endTick (l : Launch) (a0 : Nat) : MI l yX4_endTick cX4_endTick 4 (some .int) 5 121 0 0 [.ref a0] (wX4_endTick a0) := by
  refine MI.of (by decide) (Nat.le_of_ble_eq_true rfl) ?_
  intro p e s m below meth c D cs lo S Q ls B hr hlk hin
  have L4 : ∀ (c0 : Nat) (K : Int32 → Int32 → HS → Prop) (n : Nat) (m1 : Int32) (m2 : Int32) (S : HS) (H : Heap) (locs : List Loc) (ls : Array Slot), Hx D cs lo s S H locs → lv_has ls 4 [(0, .ref c0), (1, .int m1), (2, .int m2)] → wX4_endTick_L4 c0 n m1 m2 S K → (∀ (m1 : Int32) (m2 : Int32) (S : HS) (H : Heap) (locs : List Loc) (ls : Array Slot), Hx D cs lo s S H locs → lv_has ls 4 [(0, .ref c0), (1, .int m1), (2, .int m2)] → K m1 m2 S → W p l e ({ frames := 5, cells := 0, slots := 0, locals := 121 } : Room) s m [.ref a0].toArray below meth c H locs 0 0 (MQ below (va_Qi Q (fun S' t => hp D cs lo S' t.heap) (fun q => lo ≤ q)) [.ref a0].toArray s 0 0 (fun q => lo ≤ q)) (F0 m 44 ls [])) → W p l e ({ frames := 5, cells := 0, slots := 0, locals := 121 } : Room) s m [.ref a0].toArray below meth c H locs 0 0 (MQ below (va_Qi Q (fun S' t => hp D cs lo S' t.heap) (fun q => lo ≤ q)) [.ref a0].toArray s 0 0 (fun q => lo ≤ q)) (F0 m 4 ls []) := by
    intro c0 K n
    induction n with
    | zero => intro m1 m2 S H locs ls h hl hw hk; exact False.elim hw
    | succ n ih =>
      intro m1 m2 S H locs ls h hl hw hk
      refine lv_iload_n B.1.1 B.1.2.1 dX4_endTick_4 rfl (lv_at hl 2 rfl) ?_
      refine lv_aload_n B.1.1 B.1.2.1 dX4_endTick_5 rfl (lv_at hl 0 rfl) ?_
      obtain ⟨hok, hw⟩ := hw
      refine q_getR B h (ci := 4) (j := 1) (code := 129) rfl inT_4 (by decide) kF_RX4_17 rfl rfl rfl (by decide) dX4_endTick_6 hok.1 hok.2 ?_
      obtain ⟨o1, hoo1⟩ : ∃ z, z = gR S 129 c0 := ⟨_, rfl⟩
      rw [← hoo1]
      replace hw := hw o1 hoo1
      obtain ⟨q1, hn, hw⟩ := hw
      subst hn
      replace hl : lv_has ls 4 [(0, .ref c0), (1, .int m1), (2, .int m2)] := hl
      obtain ⟨hok, hw⟩ := hw
      refine q_alen B h dX4_endTick_9 hok.1 (by rw [hok.2]; decide) (by rw [hok.2]; decide) ?_
      refine lv_icmp_ge (tgt := 44) B.1.1 B.1.2.1 dX4_endTick_10 (by decide) (fun hc => ?_) (fun hc => ?_)
      · replace hw := hw.1 hc
        exact hk m1 m2 _ _ _ ls h (lv_sub hl [0, 1, 2] rfl) hw
      · replace hw := hw.2 hc
        refine lv_aload_n B.1.1 B.1.2.1 dX4_endTick_13 rfl (lv_at hl 0 rfl) ?_
        obtain ⟨hok, hw⟩ := hw
        refine q_getR B h (ci := 4) (j := 1) (code := 129) rfl inT_4 (by decide) kF_RX4_17 rfl rfl rfl (by decide) dX4_endTick_14 hok.1 hok.2 ?_
        obtain ⟨o2, hoo2⟩ : ∃ z, z = gR S 129 c0 := ⟨_, rfl⟩
        rw [← hoo2]
        replace hw := hw o2 hoo2
        refine lv_iload_n B.1.1 B.1.2.1 dX4_endTick_17 rfl (lv_at hl 2 rfl) ?_
        obtain ⟨q2, hn, hw⟩ := hw
        subst hn
        replace hl : lv_has ls 4 [(0, .ref c0), (1, .int m1), (2, .int m2)] := hl
        obtain ⟨hok, hin9, hw⟩ := hw
        refine q_aald B h (kd := 9) (by decide) (by decide) rfl dX4_endTick_18 hok.1 hok.2 hin9 ?_
        obtain ⟨o3, hoo3⟩ : ∃ z, z = gQ S q2 m2.toNatClampNeg := ⟨_, rfl⟩
        rw [← hoo3]
        replace hw := hw o3 hoo3
        refine q_astore_n (i := 3) (lv' := [(3, va_rf o3), (0, .ref c0), (1, .int m1), (2, .int m2)]) B.1.1 B.1.2.1 dX4_endTick_19 rfl hl (by decide) rfl (fun ls hl9 => ?_)
        replace hl := hl9
        clear hl9
        refine q_aload_n B.1.1 B.1.2.1 dX4_endTick_20 rfl (lv_at hl 0 rfl) ?_
        refine q_ifnull (tgt := 38) B.1.1 B.1.2.1 dX4_endTick_21 (by decide) (fun hn => ?_) (fun q3 hn => ?_)
        · replace hw := hw.1 hn
          subst hn
          replace hl : lv_has ls 4 [(3, .null), (0, .ref c0), (1, .int m1), (2, .int m2)] := hl
          refine lv_iinc (i := 2) (v := (m2 + (1 : Int32))) (lv' := [(2, .int (m2 + (1 : Int32))), (3, .null), (0, .ref c0), (1, .int m1)]) B.1.1 B.1.2.1 dX4_endTick_38 hl (k := 3) rfl rfl (by decide) rfl (fun ls hl9 => ?_)
          replace hl := hl9
          clear hl9
          refine lv_goto (tgt := 4) B.1.1 B.1.2.1 dX4_endTick_41 (by decide) ?_
          exact ih m1 (m2 + (1 : Int32)) _ _ _ ls h (lv_sub hl [2, 3, 0] rfl) hw hk
        · replace hw := hw.2 q3 hn
          subst hn
          replace hl : lv_has ls 4 [(3, .ref q3), (0, .ref c0), (1, .int m1), (2, .int m2)] := hl
          refine lv_aload_n B.1.1 B.1.2.1 dX4_endTick_24 rfl (lv_at hl 0 rfl) ?_
          refine lv_aload_n B.1.1 B.1.2.1 dX4_endTick_25 rfl (lv_at hl 1 rfl) ?_
          obtain ⟨hok, hw⟩ := hw
          refine q_getI B h (ci := 4) (j := 3) (code := 131) rfl inT_4 (by decide) kF_RX4_25 rfl rfl rfl (by decide) dX4_endTick_26 hok.1 hok.2 ?_
          obtain ⟨hok, hw⟩ := hw
          refine q_callIV B h (met_X2_endsStrip l q3 (gI S 131 c0)) (CB B 1 kC_X2_endsStrip kI_RX2 kM_RX4_218 hd_X2_endsStrip ⟨Nat.le_of_ble_eq_true rfl, Nat.le_of_ble_eq_true rfl⟩) kO_X2_endsStrip kV_X2_endsStrip (ci := 2) rfl (by decide) hok.1 hok.2 (rest := []) rfl rfl hl.1 (Nat.le_of_ble_eq_true rfl) dX4_endTick_29 ⟨Nat.le_of_ble_eq_true rfl, Nat.le_of_ble_eq_true rfl⟩ hw (fun r1 S1 H locs hw9 h9 => ?_)
          replace hw := hw9
          clear hw9
          replace h := h9
          clear h9
          refine lv_if_eq (tgt := 38) B.1.1 B.1.2.1 dX4_endTick_32 (by decide) (fun hc => ?_) (fun hc => ?_)
          · replace hw := hw.1 hc
            refine lv_iinc (i := 2) (v := (m2 + (1 : Int32))) (lv' := [(2, .int (m2 + (1 : Int32))), (3, .ref q3), (0, .ref c0), (1, .int m1)]) B.1.1 B.1.2.1 dX4_endTick_38 hl (k := 3) rfl rfl (by decide) rfl (fun ls hl9 => ?_)
            replace hl := hl9
            clear hl9
            refine lv_goto (tgt := 4) B.1.1 B.1.2.1 dX4_endTick_41 (by decide) ?_
            exact ih m1 (m2 + (1 : Int32)) _ _ _ ls h (lv_sub hl [2, 3, 0] rfl) hw hk
          · replace hw := hw.2 hc
            refine lv_iinc (i := 1) (v := (m1 + (1 : Int32))) (lv' := [(1, .int (m1 + (1 : Int32))), (3, .ref q3), (0, .ref c0), (2, .int m2)]) B.1.1 B.1.2.1 dX4_endTick_35 hl (k := 2) rfl rfl (by decide) rfl (fun ls hl9 => ?_)
            replace hl := hl9
            clear hl9
            refine lv_iinc (i := 2) (v := (m2 + (1 : Int32))) (lv' := [(2, .int (m2 + (1 : Int32))), (1, .int (m1 + (1 : Int32))), (3, .ref q3), (0, .ref c0)]) B.1.1 B.1.2.1 dX4_endTick_38 hl (k := 3) rfl rfl (by decide) rfl (fun ls hl9 => ?_)
            replace hl := hl9
            clear hl9
            refine lv_goto (tgt := 4) B.1.1 B.1.2.1 dX4_endTick_41 (by decide) ?_
            exact ih (m1 + (1 : Int32)) (m2 + (1 : Int32)) _ _ _ ls h (lv_sub hl [3, 1, 0] rfl) hw hk
  intro h hl hw
  replace hl : lv_has ls 4 [(0, .ref a0)] := hl
  refine lv_iconst (v := (0 : Int32)) B.1.1 B.1.2.1 dX4_endTick_0 (by decide) ?_
  refine lv_istore_n (i := 1) (lv' := [(1, .int (0 : Int32)), (0, .ref a0)]) B.1.1 B.1.2.1 dX4_endTick_1 rfl hl (by decide) rfl (fun ls hl9 => ?_)
  replace hl := hl9
  clear hl9
  refine lv_iconst (v := (0 : Int32)) B.1.1 B.1.2.1 dX4_endTick_2 (by decide) ?_
  refine lv_istore_n (i := 2) (lv' := [(2, .int (0 : Int32)), (1, .int (0 : Int32)), (0, .ref a0)]) B.1.1 B.1.2.1 dX4_endTick_3 rfl hl (by decide) rfl (fun ls hl9 => ?_)
  replace hl := hl9
  clear hl9
  obtain ⟨n1, hw⟩ := hw
  refine L4 a0 _ n1 (0 : Int32) (0 : Int32) _ _ _ ls h (lv_sub hl [2, 1, 0] rfl) hw (fun u1 u2 S2 H locs ls h9 hl9 hw9 => ?_)
  replace hw := hw9
  clear hw9
  replace h := h9
  clear h9
  replace hl := hl9
  clear hl9
  refine lv_iload_n B.1.1 B.1.2.1 dX4_endTick_44 rfl (lv_at hl 1 rfl) ?_
  exact q_iret B hr hlk h hw dX4_endTick_45 (Nat.le_of_ble_eq_true rfl) (Nat.le_of_ble_eq_true rfl)
end
section
theorem dX5_thrown_0 : decode cX5_thrown 0 = .ok (.aload_n 0, 1) := by decide +kernel
theorem dX5_thrown_1 : decode cX5_thrown 1 = .ok (.getfield 62, 3) := by decide +kernel
theorem dX5_thrown_4 : decode cX5_thrown 4 = .ok (.ireturn, 1) := by decide +kernel
theorem dX5_fails_0 : decode cX5_fails 0 = .ok (.aload_n 0, 1) := by decide +kernel
theorem dX5_fails_1 : decode cX5_fails 1 = .ok (.iload_n 1, 1) := by decide +kernel
theorem dX5_fails_2 : decode cX5_fails 2 = .ok (.putfield 62, 3) := by decide +kernel
theorem dX5_fails_5 : decode cX5_fails 5 = .ok (.iload_n 1, 1) := by decide +kernel
theorem dX5_fails_6 : decode cX5_fails 6 = .ok (.ifCond .le 7, 3) := by decide +kernel
theorem dX5_fails_9 : decode cX5_fails 9 = .ok (.iconst 1, 1) := by decide +kernel
theorem dX5_fails_10 : decode cX5_fails 10 = .ok (.goto 4, 3) := by decide +kernel
theorem dX5_fails_13 : decode cX5_fails 13 = .ok (.iconst 0, 1) := by decide +kernel
theorem dX5_fails_14 : decode cX5_fails 14 = .ok (.ireturn, 1) := by decide +kernel
theorem dX5_isIn_0 : decode cX5_isIn 0 = .ok (.iload_n 0, 1) := by decide +kernel
theorem dX5_isIn_1 : decode cX5_isIn 1 = .ok (.iload_n 1, 1) := by decide +kernel
theorem dX5_isIn_2 : decode cX5_isIn 2 = .ok (.if_icmp .lt 12, 3) := by decide +kernel
theorem dX5_isIn_5 : decode cX5_isIn 5 = .ok (.iload_n 0, 1) := by decide +kernel
theorem dX5_isIn_6 : decode cX5_isIn 6 = .ok (.iload_n 2, 1) := by decide +kernel
theorem dX5_isIn_7 : decode cX5_isIn 7 = .ok (.if_icmp .gt 7, 3) := by decide +kernel
theorem dX5_isIn_10 : decode cX5_isIn 10 = .ok (.iconst 1, 1) := by decide +kernel
theorem dX5_isIn_11 : decode cX5_isIn 11 = .ok (.goto 4, 3) := by decide +kernel
theorem dX5_isIn_14 : decode cX5_isIn 14 = .ok (.iconst 0, 1) := by decide +kernel
theorem dX5_isIn_15 : decode cX5_isIn 15 = .ok (.ireturn, 1) := by decide +kernel
theorem dX5_isBanner_0 : decode cX5_isBanner 0 = .ok (.iload_n 1, 1) := by decide +kernel
theorem dX5_isBanner_1 : decode cX5_isBanner 1 = .ok (.iconst 0, 1) := by decide +kernel
theorem dX5_isBanner_2 : decode cX5_isBanner 2 = .ok (.aload_n 0, 1) := by decide +kernel
theorem dX5_isBanner_3 : decode cX5_isBanner 3 = .ok (.getfield 66, 3) := by decide +kernel
theorem dX5_isBanner_6 : decode cX5_isBanner 6 = .ok (.iconst 1, 1) := by decide +kernel
theorem dX5_isBanner_7 : decode cX5_isBanner 7 = .ok (.isub, 1) := by decide +kernel
theorem dX5_isBanner_8 : decode cX5_isBanner 8 = .ok (.invokestatic 69, 3) := by decide +kernel
theorem dX5_isBanner_11 : decode cX5_isBanner 11 = .ok (.ireturn, 1) := by decide +kernel
theorem dX5_isRow_0 : decode cX5_isRow 0 = .ok (.iload_n 0, 1) := by decide +kernel
theorem dX5_isRow_1 : decode cX5_isRow 1 = .ok (.iconst 0, 1) := by decide +kernel
theorem dX5_isRow_2 : decode cX5_isRow 2 = .ok (.bipush 7, 2) := by decide +kernel
theorem dX5_isRow_4 : decode cX5_isRow 4 = .ok (.invokestatic 69, 3) := by decide +kernel
theorem dX5_isRow_7 : decode cX5_isRow 7 = .ok (.ireturn, 1) := by decide +kernel
theorem dX5_isPrinter_0 : decode cX5_isPrinter 0 = .ok (.iload_n 0, 1) := by decide +kernel
theorem dX5_isPrinter_1 : decode cX5_isPrinter 1 = .ok (.iconst 0, 1) := by decide +kernel
theorem dX5_isPrinter_2 : decode cX5_isPrinter 2 = .ok (.iconst 2, 1) := by decide +kernel
theorem dX5_isPrinter_3 : decode cX5_isPrinter 3 = .ok (.invokestatic 69, 3) := by decide +kernel
theorem dX5_isPrinter_6 : decode cX5_isPrinter 6 = .ok (.ireturn, 1) := by decide +kernel
theorem dX5_first_0 : decode cX5_first 0 = .ok (.iload_n 2, 1) := by decide +kernel
theorem dX5_first_1 : decode cX5_first 1 = .ok (.aload_n 0, 1) := by decide +kernel
theorem dX5_first_2 : decode cX5_first 2 = .ok (.getfield 13, 3) := by decide +kernel
theorem dX5_first_5 : decode cX5_first 5 = .ok (.iload_n 1, 1) := by decide +kernel
theorem dX5_first_6 : decode cX5_first 6 = .ok (.iaload, 1) := by decide +kernel
theorem dX5_first_7 : decode cX5_first 7 = .ok (.aload_n 0, 1) := by decide +kernel
theorem dX5_first_8 : decode cX5_first 8 = .ok (.getfield 16, 3) := by decide +kernel
theorem dX5_first_11 : decode cX5_first 11 = .ok (.iload_n 1, 1) := by decide +kernel
theorem dX5_first_12 : decode cX5_first 12 = .ok (.iaload, 1) := by decide +kernel
theorem dX5_first_13 : decode cX5_first 13 = .ok (.isub, 1) := by decide +kernel
theorem dX5_first_14 : decode cX5_first 14 = .ok (.imul, 1) := by decide +kernel
theorem dX5_first_15 : decode cX5_first 15 = .ok (.ireturn, 1) := by decide +kernel
theorem dX5_end_0 : decode cX5_end 0 = .ok (.aload_n 0, 1) := by decide +kernel
theorem dX5_end_1 : decode cX5_end 1 = .ok (.iload_n 1, 1) := by decide +kernel
theorem dX5_end_2 : decode cX5_end 2 = .ok (.iload_n 2, 1) := by decide +kernel
theorem dX5_end_3 : decode cX5_end 3 = .ok (.invokevirtual 84, 3) := by decide +kernel
theorem dX5_end_6 : decode cX5_end 6 = .ok (.aload_n 0, 1) := by decide +kernel
theorem dX5_end_7 : decode cX5_end 7 = .ok (.getfield 13, 3) := by decide +kernel
theorem dX5_end_10 : decode cX5_end 10 = .ok (.iload_n 1, 1) := by decide +kernel
theorem dX5_end_11 : decode cX5_end 11 = .ok (.iaload, 1) := by decide +kernel
theorem dX5_end_12 : decode cX5_end 12 = .ok (.iadd, 1) := by decide +kernel
theorem dX5_end_13 : decode cX5_end 13 = .ok (.istore_n 3, 1) := by decide +kernel
theorem dX5_end_14 : decode cX5_end 14 = .ok (.iload_n 3, 1) := by decide +kernel
theorem dX5_end_15 : decode cX5_end 15 = .ok (.aload_n 0, 1) := by decide +kernel
theorem dX5_end_16 : decode cX5_end 16 = .ok (.getfield 7, 3) := by decide +kernel
theorem dX5_end_19 : decode cX5_end 19 = .ok (.iload_n 1, 1) := by decide +kernel
theorem dX5_end_20 : decode cX5_end 20 = .ok (.iaload, 1) := by decide +kernel
theorem dX5_end_21 : decode cX5_end 21 = .ok (.if_icmp .ge 7, 3) := by decide +kernel
theorem dX5_end_24 : decode cX5_end 24 = .ok (.iload_n 3, 1) := by decide +kernel
theorem dX5_end_25 : decode cX5_end 25 = .ok (.goto 9, 3) := by decide +kernel
theorem dX5_end_28 : decode cX5_end 28 = .ok (.aload_n 0, 1) := by decide +kernel
theorem dX5_end_29 : decode cX5_end 29 = .ok (.getfield 7, 3) := by decide +kernel
theorem dX5_end_32 : decode cX5_end 32 = .ok (.iload_n 1, 1) := by decide +kernel
theorem dX5_end_33 : decode cX5_end 33 = .ok (.iaload, 1) := by decide +kernel
theorem dX5_end_34 : decode cX5_end 34 = .ok (.ireturn, 1) := by decide +kernel
theorem dX5_stripsOf_0 : decode cX5_stripsOf 0 = .ok (.iconst 1, 1) := by decide +kernel
theorem dX5_stripsOf_1 : decode cX5_stripsOf 1 = .ok (.istore_n 2, 1) := by decide +kernel
theorem dX5_stripsOf_2 : decode cX5_stripsOf 2 = .ok (.aload_n 0, 1) := by decide +kernel
theorem dX5_stripsOf_3 : decode cX5_stripsOf 3 = .ok (.iload_n 1, 1) := by decide +kernel
theorem dX5_stripsOf_4 : decode cX5_stripsOf 4 = .ok (.iload_n 2, 1) := by decide +kernel
theorem dX5_stripsOf_5 : decode cX5_stripsOf 5 = .ok (.iconst 1, 1) := by decide +kernel
theorem dX5_stripsOf_6 : decode cX5_stripsOf 6 = .ok (.isub, 1) := by decide +kernel
theorem dX5_stripsOf_7 : decode cX5_stripsOf 7 = .ok (.invokevirtual 88, 3) := by decide +kernel
theorem dX5_stripsOf_10 : decode cX5_stripsOf 10 = .ok (.aload_n 0, 1) := by decide +kernel
theorem dX5_stripsOf_11 : decode cX5_stripsOf 11 = .ok (.getfield 7, 3) := by decide +kernel
theorem dX5_stripsOf_14 : decode cX5_stripsOf 14 = .ok (.iload_n 1, 1) := by decide +kernel
theorem dX5_stripsOf_15 : decode cX5_stripsOf 15 = .ok (.iaload, 1) := by decide +kernel
theorem dX5_stripsOf_16 : decode cX5_stripsOf 16 = .ok (.if_icmp .ge 9, 3) := by decide +kernel
theorem dX5_stripsOf_19 : decode cX5_stripsOf 19 = .ok (.iinc 2 1, 3) := by decide +kernel
theorem dX5_stripsOf_22 : decode cX5_stripsOf 22 = .ok (.goto (-20), 3) := by decide +kernel
theorem dX5_stripsOf_25 : decode cX5_stripsOf 25 = .ok (.iload_n 2, 1) := by decide +kernel
theorem dX5_stripsOf_26 : decode cX5_stripsOf 26 = .ok (.ireturn, 1) := by decide +kernel
theorem dX5_isStrip_0 : decode cX5_isStrip 0 = .ok (.aload_n 0, 1) := by decide +kernel
theorem dX5_isStrip_1 : decode cX5_isStrip 1 = .ok (.iload_n 1, 1) := by decide +kernel
theorem dX5_isStrip_2 : decode cX5_isStrip 2 = .ok (.invokevirtual 73, 3) := by decide +kernel
theorem dX5_isStrip_5 : decode cX5_isStrip 5 = .ok (.ifCond .eq 22, 3) := by decide +kernel
theorem dX5_isStrip_8 : decode cX5_isStrip 8 = .ok (.iload_n 2, 1) := by decide +kernel
theorem dX5_isStrip_9 : decode cX5_isStrip 9 = .ok (.iconst 0, 1) := by decide +kernel
theorem dX5_isStrip_10 : decode cX5_isStrip 10 = .ok (.aload_n 0, 1) := by decide +kernel
theorem dX5_isStrip_11 : decode cX5_isStrip 11 = .ok (.iload_n 1, 1) := by decide +kernel
theorem dX5_isStrip_12 : decode cX5_isStrip 12 = .ok (.invokevirtual 77, 3) := by decide +kernel
theorem dX5_isStrip_15 : decode cX5_isStrip 15 = .ok (.iconst 1, 1) := by decide +kernel
theorem dX5_isStrip_16 : decode cX5_isStrip 16 = .ok (.isub, 1) := by decide +kernel
theorem dX5_isStrip_17 : decode cX5_isStrip 17 = .ok (.invokestatic 69, 3) := by decide +kernel
theorem dX5_isStrip_20 : decode cX5_isStrip 20 = .ok (.ifCond .eq 7, 3) := by decide +kernel
theorem dX5_isStrip_23 : decode cX5_isStrip 23 = .ok (.iconst 1, 1) := by decide +kernel
theorem dX5_isStrip_24 : decode cX5_isStrip 24 = .ok (.goto 4, 3) := by decide +kernel
theorem dX5_isStrip_27 : decode cX5_isStrip 27 = .ok (.iconst 0, 1) := by decide +kernel
theorem dX5_isStrip_28 : decode cX5_isStrip 28 = .ok (.ireturn, 1) := by decide +kernel
theorem dX5_isDot_0 : decode cX5_isDot 0 = .ok (.aload_n 0, 1) := by decide +kernel
theorem dX5_isDot_1 : decode cX5_isDot 1 = .ok (.iload_n 1, 1) := by decide +kernel
theorem dX5_isDot_2 : decode cX5_isDot 2 = .ok (.invokevirtual 73, 3) := by decide +kernel
theorem dX5_isDot_5 : decode cX5_isDot 5 = .ok (.ifCond .eq 30, 3) := by decide +kernel
theorem dX5_isDot_8 : decode cX5_isDot 8 = .ok (.iload_n 2, 1) := by decide +kernel
theorem dX5_isDot_9 : decode cX5_isDot 9 = .ok (.invokestatic 81, 3) := by decide +kernel
theorem dX5_isDot_12 : decode cX5_isDot 12 = .ok (.ifCond .eq 23, 3) := by decide +kernel
theorem dX5_isDot_15 : decode cX5_isDot 15 = .ok (.iload_n 3, 1) := by decide +kernel
theorem dX5_isDot_16 : decode cX5_isDot 16 = .ok (.iconst 0, 1) := by decide +kernel
theorem dX5_isDot_17 : decode cX5_isDot 17 = .ok (.aload_n 0, 1) := by decide +kernel
theorem dX5_isDot_18 : decode cX5_isDot 18 = .ok (.getfield 7, 3) := by decide +kernel
theorem dX5_isDot_21 : decode cX5_isDot 21 = .ok (.iload_n 1, 1) := by decide +kernel
theorem dX5_isDot_22 : decode cX5_isDot 22 = .ok (.iaload, 1) := by decide +kernel
theorem dX5_isDot_23 : decode cX5_isDot 23 = .ok (.iconst 1, 1) := by decide +kernel
theorem dX5_isDot_24 : decode cX5_isDot 24 = .ok (.isub, 1) := by decide +kernel
theorem dX5_isDot_25 : decode cX5_isDot 25 = .ok (.invokestatic 69, 3) := by decide +kernel
theorem dX5_isDot_28 : decode cX5_isDot 28 = .ok (.ifCond .eq 7, 3) := by decide +kernel
theorem dX5_isDot_31 : decode cX5_isDot 31 = .ok (.iconst 1, 1) := by decide +kernel
theorem dX5_isDot_32 : decode cX5_isDot 32 = .ok (.goto 4, 3) := by decide +kernel
theorem dX5_isDot_35 : decode cX5_isDot 35 = .ok (.iconst 0, 1) := by decide +kernel
theorem dX5_isDot_36 : decode cX5_isDot 36 = .ok (.ireturn, 1) := by decide +kernel
theorem dX5_dot_0 : decode cX5_dot 0 = .ok (.bipush 32, 2) := by decide +kernel
theorem dX5_dot_2 : decode cX5_dot 2 = .ok (.bipush 8, 2) := by decide +kernel
theorem dX5_dot_4 : decode cX5_dot 4 = .ok (.iload_n 0, 1) := by decide +kernel
theorem dX5_dot_5 : decode cX5_dot 5 = .ok (.imul, 1) := by decide +kernel
theorem dX5_dot_6 : decode cX5_dot 6 = .ok (.iload_n 1, 1) := by decide +kernel
theorem dX5_dot_7 : decode cX5_dot 7 = .ok (.iadd, 1) := by decide +kernel
theorem dX5_dot_8 : decode cX5_dot 8 = .ok (.imul, 1) := by decide +kernel
theorem dX5_dot_9 : decode cX5_dot 9 = .ok (.iload_n 2, 1) := by decide +kernel
theorem dX5_dot_10 : decode cX5_dot 10 = .ok (.iadd, 1) := by decide +kernel
theorem dX5_dot_11 : decode cX5_dot 11 = .ok (.ireturn, 1) := by decide +kernel
theorem dX5_has_0 : decode cX5_has 0 = .ok (.iload_n 2, 1) := by decide +kernel
theorem dX5_has_1 : decode cX5_has 1 = .ok (.iconst 0, 1) := by decide +kernel
theorem dX5_has_2 : decode cX5_has 2 = .ok (.aload_n 0, 1) := by decide +kernel
theorem dX5_has_3 : decode cX5_has 3 = .ok (.iload_n 1, 1) := by decide +kernel
theorem dX5_has_4 : decode cX5_has 4 = .ok (.invokevirtual 77, 3) := by decide +kernel
theorem dX5_has_7 : decode cX5_has 7 = .ok (.iconst 1, 1) := by decide +kernel
theorem dX5_has_8 : decode cX5_has 8 = .ok (.isub, 1) := by decide +kernel
theorem dX5_has_9 : decode cX5_has 9 = .ok (.invokestatic 69, 3) := by decide +kernel
theorem dX5_has_12 : decode cX5_has 12 = .ok (.ifCond .eq 28, 3) := by decide +kernel
theorem dX5_has_15 : decode cX5_has 15 = .ok (.iload_n 3, 1) := by decide +kernel
theorem dX5_has_16 : decode cX5_has 16 = .ok (.aload_n 0, 1) := by decide +kernel
theorem dX5_has_17 : decode cX5_has 17 = .ok (.iload_n 1, 1) := by decide +kernel
theorem dX5_has_18 : decode cX5_has 18 = .ok (.iload_n 2, 1) := by decide +kernel
theorem dX5_has_19 : decode cX5_has 19 = .ok (.invokevirtual 84, 3) := by decide +kernel
theorem dX5_has_22 : decode cX5_has 22 = .ok (.aload_n 0, 1) := by decide +kernel
theorem dX5_has_23 : decode cX5_has 23 = .ok (.iload_n 1, 1) := by decide +kernel
theorem dX5_has_24 : decode cX5_has 24 = .ok (.iload_n 2, 1) := by decide +kernel
theorem dX5_has_25 : decode cX5_has 25 = .ok (.invokevirtual 88, 3) := by decide +kernel
theorem dX5_has_28 : decode cX5_has 28 = .ok (.iconst 1, 1) := by decide +kernel
theorem dX5_has_29 : decode cX5_has 29 = .ok (.isub, 1) := by decide +kernel
theorem dX5_has_30 : decode cX5_has 30 = .ok (.invokestatic 69, 3) := by decide +kernel
theorem dX5_has_33 : decode cX5_has 33 = .ok (.ifCond .eq 7, 3) := by decide +kernel
theorem dX5_has_36 : decode cX5_has 36 = .ok (.iconst 1, 1) := by decide +kernel
theorem dX5_has_37 : decode cX5_has 37 = .ok (.goto 4, 3) := by decide +kernel
theorem dX5_has_40 : decode cX5_has 40 = .ok (.iconst 0, 1) := by decide +kernel
theorem dX5_has_41 : decode cX5_has 41 = .ok (.ireturn, 1) := by decide +kernel
theorem dX5_lays_0 : decode cX5_lays 0 = .ok (.aload_n 0, 1) := by decide +kernel
theorem dX5_lays_1 : decode cX5_lays 1 = .ok (.getfield 25, 3) := by decide +kernel
theorem dX5_lays_4 : decode cX5_lays 4 = .ok (.iload_n 1, 1) := by decide +kernel
theorem dX5_lays_5 : decode cX5_lays 5 = .ok (.iload_n 3, 1) := by decide +kernel
theorem dX5_lays_6 : decode cX5_lays 6 = .ok (.iload 4, 2) := by decide +kernel
theorem dX5_lays_8 : decode cX5_lays 8 = .ok (.invokestatic 97, 3) := by decide +kernel
theorem dX5_lays_11 : decode cX5_lays 11 = .ok (.iaload, 1) := by decide +kernel
theorem dX5_lays_12 : decode cX5_lays 12 = .ok (.istore 5, 2) := by decide +kernel
theorem dX5_lays_14 : decode cX5_lays 14 = .ok (.aload_n 0, 1) := by decide +kernel
theorem dX5_lays_15 : decode cX5_lays 15 = .ok (.iload_n 1, 1) := by decide +kernel
theorem dX5_lays_16 : decode cX5_lays 16 = .ok (.iload_n 2, 1) := by decide +kernel
theorem dX5_lays_17 : decode cX5_lays 17 = .ok (.iload 4, 2) := by decide +kernel
theorem dX5_lays_19 : decode cX5_lays 19 = .ok (.invokevirtual 101, 3) := by decide +kernel
theorem dX5_lays_22 : decode cX5_lays 22 = .ok (.ifCond .ne 5, 3) := by decide +kernel
theorem dX5_lays_25 : decode cX5_lays 25 = .ok (.iconst 0, 1) := by decide +kernel
theorem dX5_lays_26 : decode cX5_lays 26 = .ok (.ireturn, 1) := by decide +kernel
theorem dX5_lays_27 : decode cX5_lays 27 = .ok (.aload_n 0, 1) := by decide +kernel
theorem dX5_lays_28 : decode cX5_lays 28 = .ok (.iload_n 1, 1) := by decide +kernel
theorem dX5_lays_29 : decode cX5_lays 29 = .ok (.iload_n 2, 1) := by decide +kernel
theorem dX5_lays_30 : decode cX5_lays 30 = .ok (.iconst 1, 1) := by decide +kernel
theorem dX5_lays_31 : decode cX5_lays 31 = .ok (.iadd, 1) := by decide +kernel
theorem dX5_lays_32 : decode cX5_lays 32 = .ok (.iload 4, 2) := by decide +kernel
theorem dX5_lays_34 : decode cX5_lays 34 = .ok (.invokevirtual 101, 3) := by decide +kernel
theorem dX5_lays_37 : decode cX5_lays 37 = .ok (.ifCond .eq 12, 3) := by decide +kernel
theorem dX5_lays_40 : decode cX5_lays 40 = .ok (.iload 5, 2) := by decide +kernel
theorem dX5_lays_42 : decode cX5_lays 42 = .ok (.iconst 1, 1) := by decide +kernel
theorem dX5_lays_43 : decode cX5_lays 43 = .ok (.iadd, 1) := by decide +kernel
theorem dX5_lays_44 : decode cX5_lays 44 = .ok (.iconst 2, 1) := by decide +kernel
theorem dX5_lays_45 : decode cX5_lays 45 = .ok (.idiv, 1) := by decide +kernel
theorem dX5_lays_46 : decode cX5_lays 46 = .ok (.goto 25, 3) := by decide +kernel
theorem dX5_lays_49 : decode cX5_lays 49 = .ok (.aload_n 0, 1) := by decide +kernel
theorem dX5_lays_50 : decode cX5_lays 50 = .ok (.iload_n 1, 1) := by decide +kernel
theorem dX5_lays_51 : decode cX5_lays 51 = .ok (.iload_n 2, 1) := by decide +kernel
theorem dX5_lays_52 : decode cX5_lays 52 = .ok (.iconst 1, 1) := by decide +kernel
theorem dX5_lays_53 : decode cX5_lays 53 = .ok (.isub, 1) := by decide +kernel
theorem dX5_lays_54 : decode cX5_lays 54 = .ok (.iload 4, 2) := by decide +kernel
theorem dX5_lays_56 : decode cX5_lays 56 = .ok (.invokevirtual 101, 3) := by decide +kernel
theorem dX5_lays_59 : decode cX5_lays 59 = .ok (.ifCond .eq 10, 3) := by decide +kernel
theorem dX5_lays_62 : decode cX5_lays 62 = .ok (.iload 5, 2) := by decide +kernel
theorem dX5_lays_64 : decode cX5_lays 64 = .ok (.iconst 2, 1) := by decide +kernel
theorem dX5_lays_65 : decode cX5_lays 65 = .ok (.idiv, 1) := by decide +kernel
theorem dX5_lays_66 : decode cX5_lays 66 = .ok (.goto 5, 3) := by decide +kernel
theorem dX5_lays_69 : decode cX5_lays 69 = .ok (.iload 5, 2) := by decide +kernel
theorem dX5_lays_71 : decode cX5_lays 71 = .ok (.ireturn, 1) := by decide +kernel
theorem dX5_blocked_0 : decode cX5_blocked 0 = .ok (.iconst 0, 1) := by decide +kernel
theorem dX5_blocked_1 : decode cX5_blocked 1 = .ok (.istore_n 2, 1) := by decide +kernel
theorem dX5_blocked_2 : decode cX5_blocked 2 = .ok (.iconst 0, 1) := by decide +kernel
theorem dX5_blocked_3 : decode cX5_blocked 3 = .ok (.istore_n 3, 1) := by decide +kernel
theorem dX5_blocked_4 : decode cX5_blocked 4 = .ok (.iload_n 3, 1) := by decide +kernel
theorem dX5_blocked_5 : decode cX5_blocked 5 = .ok (.bipush 8, 2) := by decide +kernel
theorem dX5_blocked_7 : decode cX5_blocked 7 = .ok (.if_icmp .ge 31, 3) := by decide +kernel
theorem dX5_blocked_10 : decode cX5_blocked 10 = .ok (.iload_n 2, 1) := by decide +kernel
theorem dX5_blocked_11 : decode cX5_blocked 11 = .ok (.aload_n 0, 1) := by decide +kernel
theorem dX5_blocked_12 : decode cX5_blocked 12 = .ok (.getfield 46, 3) := by decide +kernel
theorem dX5_blocked_15 : decode cX5_blocked 15 = .ok (.bipush 8, 2) := by decide +kernel
theorem dX5_blocked_17 : decode cX5_blocked 17 = .ok (.iload_n 1, 1) := by decide +kernel
theorem dX5_blocked_18 : decode cX5_blocked 18 = .ok (.imul, 1) := by decide +kernel
theorem dX5_blocked_19 : decode cX5_blocked 19 = .ok (.iload_n 3, 1) := by decide +kernel
theorem dX5_blocked_20 : decode cX5_blocked 20 = .ok (.iadd, 1) := by decide +kernel
theorem dX5_blocked_21 : decode cX5_blocked 21 = .ok (.baload, 1) := by decide +kernel
theorem dX5_blocked_22 : decode cX5_blocked 22 = .ok (.ifCond .eq 7, 3) := by decide +kernel
theorem dX5_blocked_25 : decode cX5_blocked 25 = .ok (.iconst 1, 1) := by decide +kernel
theorem dX5_blocked_26 : decode cX5_blocked 26 = .ok (.goto 4, 3) := by decide +kernel
theorem dX5_blocked_29 : decode cX5_blocked 29 = .ok (.iconst 0, 1) := by decide +kernel
theorem dX5_blocked_30 : decode cX5_blocked 30 = .ok (.iadd, 1) := by decide +kernel
theorem dX5_blocked_31 : decode cX5_blocked 31 = .ok (.istore_n 2, 1) := by decide +kernel
theorem dX5_blocked_32 : decode cX5_blocked 32 = .ok (.iinc 3 1, 3) := by decide +kernel
theorem dX5_blocked_35 : decode cX5_blocked 35 = .ok (.goto (-31), 3) := by decide +kernel
theorem dX5_blocked_38 : decode cX5_blocked 38 = .ok (.iload_n 2, 1) := by decide +kernel
theorem dX5_blocked_39 : decode cX5_blocked 39 = .ok (.ireturn, 1) := by decide +kernel
theorem dX5_wants_0 : decode cX5_wants 0 = .ok (.iload_n 3, 1) := by decide +kernel
theorem dX5_wants_1 : decode cX5_wants 1 = .ok (.aload_n 0, 1) := by decide +kernel
theorem dX5_wants_2 : decode cX5_wants 2 = .ok (.getfield 43, 3) := by decide +kernel
theorem dX5_wants_5 : decode cX5_wants 5 = .ok (.iload_n 1, 1) := by decide +kernel
theorem dX5_wants_6 : decode cX5_wants 6 = .ok (.iaload, 1) := by decide +kernel
theorem dX5_wants_7 : decode cX5_wants 7 = .ok (.imul, 1) := by decide +kernel
theorem dX5_wants_8 : decode cX5_wants 8 = .ok (.bipush 100, 2) := by decide +kernel
theorem dX5_wants_10 : decode cX5_wants 10 = .ok (.idiv, 1) := by decide +kernel
theorem dX5_wants_11 : decode cX5_wants 11 = .ok (.istore 4, 2) := by decide +kernel
theorem dX5_wants_13 : decode cX5_wants 13 = .ok (.aload_n 0, 1) := by decide +kernel
theorem dX5_wants_14 : decode cX5_wants 14 = .ok (.getfield 59, 3) := by decide +kernel
theorem dX5_wants_17 : decode cX5_wants 17 = .ok (.iload_n 2, 1) := by decide +kernel
theorem dX5_wants_18 : decode cX5_wants 18 = .ok (.iload 4, 2) := by decide +kernel
theorem dX5_wants_20 : decode cX5_wants 20 = .ok (.bipush 15, 2) := by decide +kernel
theorem dX5_wants_22 : decode cX5_wants 22 = .ok (.if_icmp .le 8, 3) := by decide +kernel
theorem dX5_wants_25 : decode cX5_wants 25 = .ok (.bipush 15, 2) := by decide +kernel
theorem dX5_wants_27 : decode cX5_wants 27 = .ok (.goto 5, 3) := by decide +kernel
theorem dX5_wants_30 : decode cX5_wants 30 = .ok (.iload 4, 2) := by decide +kernel
theorem dX5_wants_32 : decode cX5_wants 32 = .ok (.iastore, 1) := by decide +kernel
theorem dX5_wants_33 : decode cX5_wants 33 = .ok (.return_, 1) := by decide +kernel
theorem dX5_isOff_0 : decode cX5_isOff 0 = .ok (.iload_n 2, 1) := by decide +kernel
theorem dX5_isOff_1 : decode cX5_isOff 1 = .ok (.invokestatic 81, 3) := by decide +kernel
theorem dX5_isOff_4 : decode cX5_isOff 4 = .ok (.ifCond .eq 21, 3) := by decide +kernel
theorem dX5_isOff_7 : decode cX5_isOff 7 = .ok (.aload_n 0, 1) := by decide +kernel
theorem dX5_isOff_8 : decode cX5_isOff 8 = .ok (.getfield 46, 3) := by decide +kernel
theorem dX5_isOff_11 : decode cX5_isOff 11 = .ok (.bipush 8, 2) := by decide +kernel
theorem dX5_isOff_13 : decode cX5_isOff 13 = .ok (.iload_n 1, 1) := by decide +kernel
theorem dX5_isOff_14 : decode cX5_isOff 14 = .ok (.imul, 1) := by decide +kernel
theorem dX5_isOff_15 : decode cX5_isOff 15 = .ok (.iload_n 2, 1) := by decide +kernel
theorem dX5_isOff_16 : decode cX5_isOff 16 = .ok (.iadd, 1) := by decide +kernel
theorem dX5_isOff_17 : decode cX5_isOff 17 = .ok (.baload, 1) := by decide +kernel
theorem dX5_isOff_18 : decode cX5_isOff 18 = .ok (.ifCond .eq 7, 3) := by decide +kernel
theorem dX5_isOff_21 : decode cX5_isOff 21 = .ok (.iconst 1, 1) := by decide +kernel
theorem dX5_isOff_22 : decode cX5_isOff 22 = .ok (.goto 4, 3) := by decide +kernel
theorem dX5_isOff_25 : decode cX5_isOff 25 = .ok (.iconst 0, 1) := by decide +kernel
theorem dX5_isOff_26 : decode cX5_isOff 26 = .ok (.ireturn, 1) := by decide +kernel
theorem dX5_nozzle_0 : decode cX5_nozzle 0 = .ok (.aload_n 0, 1) := by decide +kernel
theorem dX5_nozzle_1 : decode cX5_nozzle 1 = .ok (.iload_n 1, 1) := by decide +kernel
theorem dX5_nozzle_2 : decode cX5_nozzle 2 = .ok (.iload_n 2, 1) := by decide +kernel
theorem dX5_nozzle_3 : decode cX5_nozzle 3 = .ok (.invokevirtual 118, 3) := by decide +kernel
theorem dX5_nozzle_6 : decode cX5_nozzle 6 = .ok (.ifCond .eq 5, 3) := by decide +kernel
theorem dX5_nozzle_9 : decode cX5_nozzle 9 = .ok (.iconst 0, 1) := by decide +kernel
theorem dX5_nozzle_10 : decode cX5_nozzle 10 = .ok (.ireturn, 1) := by decide +kernel
theorem dX5_nozzle_11 : decode cX5_nozzle 11 = .ok (.aload_n 0, 1) := by decide +kernel
theorem dX5_nozzle_12 : decode cX5_nozzle 12 = .ok (.getfield 59, 3) := by decide +kernel
theorem dX5_nozzle_15 : decode cX5_nozzle 15 = .ok (.iload_n 2, 1) := by decide +kernel
theorem dX5_nozzle_16 : decode cX5_nozzle 16 = .ok (.iaload, 1) := by decide +kernel
theorem dX5_nozzle_17 : decode cX5_nozzle 17 = .ok (.istore_n 3, 1) := by decide +kernel
theorem dX5_nozzle_18 : decode cX5_nozzle 18 = .ok (.iload_n 3, 1) := by decide +kernel
theorem dX5_nozzle_19 : decode cX5_nozzle 19 = .ok (.aload_n 0, 1) := by decide +kernel
theorem dX5_nozzle_20 : decode cX5_nozzle 20 = .ok (.iload_n 1, 1) := by decide +kernel
theorem dX5_nozzle_21 : decode cX5_nozzle 21 = .ok (.iload_n 2, 1) := by decide +kernel
theorem dX5_nozzle_22 : decode cX5_nozzle 22 = .ok (.iconst 1, 1) := by decide +kernel
theorem dX5_nozzle_23 : decode cX5_nozzle 23 = .ok (.iadd, 1) := by decide +kernel
theorem dX5_nozzle_24 : decode cX5_nozzle 24 = .ok (.invokevirtual 118, 3) := by decide +kernel
theorem dX5_nozzle_27 : decode cX5_nozzle 27 = .ok (.ifCond .eq 18, 3) := by decide +kernel
theorem dX5_nozzle_30 : decode cX5_nozzle 30 = .ok (.aload_n 0, 1) := by decide +kernel
theorem dX5_nozzle_31 : decode cX5_nozzle 31 = .ok (.getfield 59, 3) := by decide +kernel
theorem dX5_nozzle_34 : decode cX5_nozzle 34 = .ok (.iload_n 2, 1) := by decide +kernel
theorem dX5_nozzle_35 : decode cX5_nozzle 35 = .ok (.iconst 1, 1) := by decide +kernel
theorem dX5_nozzle_36 : decode cX5_nozzle 36 = .ok (.iadd, 1) := by decide +kernel
theorem dX5_nozzle_37 : decode cX5_nozzle 37 = .ok (.iaload, 1) := by decide +kernel
theorem dX5_nozzle_38 : decode cX5_nozzle 38 = .ok (.iconst 1, 1) := by decide +kernel
theorem dX5_nozzle_39 : decode cX5_nozzle 39 = .ok (.iadd, 1) := by decide +kernel
theorem dX5_nozzle_40 : decode cX5_nozzle 40 = .ok (.iconst 2, 1) := by decide +kernel
theorem dX5_nozzle_41 : decode cX5_nozzle 41 = .ok (.idiv, 1) := by decide +kernel
theorem dX5_nozzle_42 : decode cX5_nozzle 42 = .ok (.goto 4, 3) := by decide +kernel
theorem dX5_nozzle_45 : decode cX5_nozzle 45 = .ok (.iconst 0, 1) := by decide +kernel
theorem dX5_nozzle_46 : decode cX5_nozzle 46 = .ok (.iadd, 1) := by decide +kernel
theorem dX5_nozzle_47 : decode cX5_nozzle 47 = .ok (.istore_n 3, 1) := by decide +kernel
theorem dX5_nozzle_48 : decode cX5_nozzle 48 = .ok (.iload_n 3, 1) := by decide +kernel
theorem dX5_nozzle_49 : decode cX5_nozzle 49 = .ok (.aload_n 0, 1) := by decide +kernel
theorem dX5_nozzle_50 : decode cX5_nozzle 50 = .ok (.iload_n 1, 1) := by decide +kernel
theorem dX5_nozzle_51 : decode cX5_nozzle 51 = .ok (.iload_n 2, 1) := by decide +kernel
theorem dX5_nozzle_52 : decode cX5_nozzle 52 = .ok (.iconst 1, 1) := by decide +kernel
theorem dX5_nozzle_53 : decode cX5_nozzle 53 = .ok (.isub, 1) := by decide +kernel
theorem dX5_nozzle_54 : decode cX5_nozzle 54 = .ok (.invokevirtual 118, 3) := by decide +kernel
theorem dX5_nozzle_57 : decode cX5_nozzle 57 = .ok (.ifCond .eq 16, 3) := by decide +kernel
theorem dX5_nozzle_60 : decode cX5_nozzle 60 = .ok (.aload_n 0, 1) := by decide +kernel
theorem dX5_nozzle_61 : decode cX5_nozzle 61 = .ok (.getfield 59, 3) := by decide +kernel
theorem dX5_nozzle_64 : decode cX5_nozzle 64 = .ok (.iload_n 2, 1) := by decide +kernel
theorem dX5_nozzle_65 : decode cX5_nozzle 65 = .ok (.iconst 1, 1) := by decide +kernel
theorem dX5_nozzle_66 : decode cX5_nozzle 66 = .ok (.isub, 1) := by decide +kernel
theorem dX5_nozzle_67 : decode cX5_nozzle 67 = .ok (.iaload, 1) := by decide +kernel
theorem dX5_nozzle_68 : decode cX5_nozzle 68 = .ok (.iconst 2, 1) := by decide +kernel
theorem dX5_nozzle_69 : decode cX5_nozzle 69 = .ok (.idiv, 1) := by decide +kernel
theorem dX5_nozzle_70 : decode cX5_nozzle 70 = .ok (.goto 4, 3) := by decide +kernel
theorem dX5_nozzle_73 : decode cX5_nozzle 73 = .ok (.iconst 0, 1) := by decide +kernel
theorem dX5_nozzle_74 : decode cX5_nozzle 74 = .ok (.iadd, 1) := by decide +kernel
theorem dX5_nozzle_75 : decode cX5_nozzle 75 = .ok (.istore_n 3, 1) := by decide +kernel
theorem dX5_nozzle_76 : decode cX5_nozzle 76 = .ok (.iload_n 3, 1) := by decide +kernel
theorem dX5_nozzle_77 : decode cX5_nozzle 77 = .ok (.bipush 15, 2) := by decide +kernel
theorem dX5_nozzle_79 : decode cX5_nozzle 79 = .ok (.if_icmp .le 8, 3) := by decide +kernel
theorem dX5_nozzle_82 : decode cX5_nozzle 82 = .ok (.bipush 15, 2) := by decide +kernel
theorem dX5_nozzle_84 : decode cX5_nozzle 84 = .ok (.goto 4, 3) := by decide +kernel
theorem dX5_nozzle_87 : decode cX5_nozzle 87 = .ok (.iload_n 3, 1) := by decide +kernel
theorem dX5_nozzle_88 : decode cX5_nozzle 88 = .ok (.istore_n 3, 1) := by decide +kernel
theorem dX5_nozzle_89 : decode cX5_nozzle 89 = .ok (.iload_n 3, 1) := by decide +kernel
theorem dX5_nozzle_90 : decode cX5_nozzle 90 = .ok (.aload_n 0, 1) := by decide +kernel
theorem dX5_nozzle_91 : decode cX5_nozzle 91 = .ok (.getfield 40, 3) := by decide +kernel
theorem dX5_nozzle_94 : decode cX5_nozzle 94 = .ok (.iload_n 1, 1) := by decide +kernel
theorem dX5_nozzle_95 : decode cX5_nozzle 95 = .ok (.iaload, 1) := by decide +kernel
theorem dX5_nozzle_96 : decode cX5_nozzle 96 = .ok (.imul, 1) := by decide +kernel
theorem dX5_nozzle_97 : decode cX5_nozzle 97 = .ok (.bipush 100, 2) := by decide +kernel
theorem dX5_nozzle_99 : decode cX5_nozzle 99 = .ok (.idiv, 1) := by decide +kernel
theorem dX5_nozzle_100 : decode cX5_nozzle 100 = .ok (.ireturn, 1) := by decide +kernel
theorem dX5_isPrinting_0 : decode cX5_isPrinting 0 = .ok (.iconst 0, 1) := by decide +kernel
theorem dX5_isPrinting_1 : decode cX5_isPrinting 1 = .ok (.istore_n 2, 1) := by decide +kernel
theorem dX5_isPrinting_2 : decode cX5_isPrinting 2 = .ok (.iconst 0, 1) := by decide +kernel
theorem dX5_isPrinting_3 : decode cX5_isPrinting 3 = .ok (.istore_n 3, 1) := by decide +kernel
theorem dX5_isPrinting_4 : decode cX5_isPrinting 4 = .ok (.iload_n 3, 1) := by decide +kernel
theorem dX5_isPrinting_5 : decode cX5_isPrinting 5 = .ok (.iconst 3, 1) := by decide +kernel
theorem dX5_isPrinting_6 : decode cX5_isPrinting 6 = .ok (.if_icmp .ge 29, 3) := by decide +kernel
theorem dX5_isPrinting_9 : decode cX5_isPrinting 9 = .ok (.iload_n 2, 1) := by decide +kernel
theorem dX5_isPrinting_10 : decode cX5_isPrinting 10 = .ok (.ifCond .ne 13, 3) := by decide +kernel
theorem dX5_isPrinting_13 : decode cX5_isPrinting 13 = .ok (.aload_n 0, 1) := by decide +kernel
theorem dX5_isPrinting_14 : decode cX5_isPrinting 14 = .ok (.getfield 53, 3) := by decide +kernel
theorem dX5_isPrinting_17 : decode cX5_isPrinting 17 = .ok (.iload_n 3, 1) := by decide +kernel
theorem dX5_isPrinting_18 : decode cX5_isPrinting 18 = .ok (.iaload, 1) := by decide +kernel
theorem dX5_isPrinting_19 : decode cX5_isPrinting 19 = .ok (.iload_n 1, 1) := by decide +kernel
theorem dX5_isPrinting_20 : decode cX5_isPrinting 20 = .ok (.if_icmp .ne 7, 3) := by decide +kernel
theorem dX5_isPrinting_23 : decode cX5_isPrinting 23 = .ok (.iconst 1, 1) := by decide +kernel
theorem dX5_isPrinting_24 : decode cX5_isPrinting 24 = .ok (.goto 4, 3) := by decide +kernel
theorem dX5_isPrinting_27 : decode cX5_isPrinting 27 = .ok (.iconst 0, 1) := by decide +kernel
theorem dX5_isPrinting_28 : decode cX5_isPrinting 28 = .ok (.istore_n 2, 1) := by decide +kernel
theorem dX5_isPrinting_29 : decode cX5_isPrinting 29 = .ok (.iinc 3 1, 3) := by decide +kernel
theorem dX5_isPrinting_32 : decode cX5_isPrinting 32 = .ok (.goto (-28), 3) := by decide +kernel
theorem dX5_isPrinting_35 : decode cX5_isPrinting 35 = .ok (.iload_n 2, 1) := by decide +kernel
theorem dX5_isPrinting_36 : decode cX5_isPrinting 36 = .ok (.ireturn, 1) := by decide +kernel
theorem dX5_takes_0 : decode cX5_takes 0 = .ok (.iconst (-1), 1) := by decide +kernel
theorem dX5_takes_1 : decode cX5_takes 1 = .ok (.istore_n 2, 1) := by decide +kernel
theorem dX5_takes_2 : decode cX5_takes 2 = .ok (.iconst 0, 1) := by decide +kernel
theorem dX5_takes_3 : decode cX5_takes 3 = .ok (.istore_n 3, 1) := by decide +kernel
theorem dX5_takes_4 : decode cX5_takes 4 = .ok (.iload_n 3, 1) := by decide +kernel
theorem dX5_takes_5 : decode cX5_takes 5 = .ok (.bipush 80, 2) := by decide +kernel
theorem dX5_takes_7 : decode cX5_takes 7 = .ok (.if_icmp .ge 63, 3) := by decide +kernel
theorem dX5_takes_10 : decode cX5_takes 10 = .ok (.aload_n 0, 1) := by decide +kernel
theorem dX5_takes_11 : decode cX5_takes 11 = .ok (.getfield 31, 3) := by decide +kernel
theorem dX5_takes_14 : decode cX5_takes 14 = .ok (.iload_n 3, 1) := by decide +kernel
theorem dX5_takes_15 : decode cX5_takes 15 = .ok (.iaload, 1) := by decide +kernel
theorem dX5_takes_16 : decode cX5_takes 16 = .ok (.iload_n 1, 1) := by decide +kernel
theorem dX5_takes_17 : decode cX5_takes 17 = .ok (.if_icmp .ne 33, 3) := by decide +kernel
theorem dX5_takes_20 : decode cX5_takes 20 = .ok (.iload_n 2, 1) := by decide +kernel
theorem dX5_takes_21 : decode cX5_takes 21 = .ok (.iconst (-1), 1) := by decide +kernel
theorem dX5_takes_22 : decode cX5_takes 22 = .ok (.if_icmp .eq 24, 3) := by decide +kernel
theorem dX5_takes_25 : decode cX5_takes 25 = .ok (.aload_n 0, 1) := by decide +kernel
theorem dX5_takes_26 : decode cX5_takes 26 = .ok (.getfield 22, 3) := by decide +kernel
theorem dX5_takes_29 : decode cX5_takes 29 = .ok (.iload_n 3, 1) := by decide +kernel
theorem dX5_takes_30 : decode cX5_takes 30 = .ok (.bipush 16, 2) := by decide +kernel
theorem dX5_takes_32 : decode cX5_takes 32 = .ok (.idiv, 1) := by decide +kernel
theorem dX5_takes_33 : decode cX5_takes 33 = .ok (.iaload, 1) := by decide +kernel
theorem dX5_takes_34 : decode cX5_takes 34 = .ok (.aload_n 0, 1) := by decide +kernel
theorem dX5_takes_35 : decode cX5_takes 35 = .ok (.getfield 22, 3) := by decide +kernel
theorem dX5_takes_38 : decode cX5_takes 38 = .ok (.iload_n 2, 1) := by decide +kernel
theorem dX5_takes_39 : decode cX5_takes 39 = .ok (.bipush 16, 2) := by decide +kernel
theorem dX5_takes_41 : decode cX5_takes 41 = .ok (.idiv, 1) := by decide +kernel
theorem dX5_takes_42 : decode cX5_takes 42 = .ok (.iaload, 1) := by decide +kernel
theorem dX5_takes_43 : decode cX5_takes 43 = .ok (.if_icmp .ge 7, 3) := by decide +kernel
theorem dX5_takes_46 : decode cX5_takes 46 = .ok (.iconst 1, 1) := by decide +kernel
theorem dX5_takes_47 : decode cX5_takes 47 = .ok (.goto 4, 3) := by decide +kernel
theorem dX5_takes_50 : decode cX5_takes 50 = .ok (.iconst 0, 1) := by decide +kernel
theorem dX5_takes_51 : decode cX5_takes 51 = .ok (.istore 4, 2) := by decide +kernel
theorem dX5_takes_53 : decode cX5_takes 53 = .ok (.iload 4, 2) := by decide +kernel
theorem dX5_takes_55 : decode cX5_takes 55 = .ok (.ifCond .eq 7, 3) := by decide +kernel
theorem dX5_takes_58 : decode cX5_takes 58 = .ok (.iload_n 3, 1) := by decide +kernel
theorem dX5_takes_59 : decode cX5_takes 59 = .ok (.goto 4, 3) := by decide +kernel
theorem dX5_takes_62 : decode cX5_takes 62 = .ok (.iload_n 2, 1) := by decide +kernel
theorem dX5_takes_63 : decode cX5_takes 63 = .ok (.istore_n 2, 1) := by decide +kernel
theorem dX5_takes_64 : decode cX5_takes 64 = .ok (.iinc 3 1, 3) := by decide +kernel
theorem dX5_takes_67 : decode cX5_takes 67 = .ok (.goto (-63), 3) := by decide +kernel
theorem dX5_takes_70 : decode cX5_takes 70 = .ok (.iload_n 2, 1) := by decide +kernel
theorem dX5_takes_71 : decode cX5_takes 71 = .ok (.iconst (-1), 1) := by decide +kernel
theorem dX5_takes_72 : decode cX5_takes 72 = .ok (.if_icmp .eq 48, 3) := by decide +kernel
theorem dX5_takes_75 : decode cX5_takes 75 = .ok (.aload_n 0, 1) := by decide +kernel
theorem dX5_takes_76 : decode cX5_takes 76 = .ok (.getfield 31, 3) := by decide +kernel
theorem dX5_takes_79 : decode cX5_takes 79 = .ok (.iload_n 2, 1) := by decide +kernel
theorem dX5_takes_80 : decode cX5_takes 80 = .ok (.iconst (-1), 1) := by decide +kernel
theorem dX5_takes_81 : decode cX5_takes 81 = .ok (.iastore, 1) := by decide +kernel
theorem dX5_takes_82 : decode cX5_takes 82 = .ok (.aload_n 0, 1) := by decide +kernel
theorem dX5_takes_83 : decode cX5_takes 83 = .ok (.getfield 53, 3) := by decide +kernel
theorem dX5_takes_86 : decode cX5_takes 86 = .ok (.iload_n 1, 1) := by decide +kernel
theorem dX5_takes_87 : decode cX5_takes 87 = .ok (.iload_n 2, 1) := by decide +kernel
theorem dX5_takes_88 : decode cX5_takes 88 = .ok (.iastore, 1) := by decide +kernel
theorem dX5_takes_89 : decode cX5_takes 89 = .ok (.aload_n 0, 1) := by decide +kernel
theorem dX5_takes_90 : decode cX5_takes 90 = .ok (.getfield 56, 3) := by decide +kernel
theorem dX5_takes_93 : decode cX5_takes 93 = .ok (.iload_n 1, 1) := by decide +kernel
theorem dX5_takes_94 : decode cX5_takes 94 = .ok (.aload_n 0, 1) := by decide +kernel
theorem dX5_takes_95 : decode cX5_takes 95 = .ok (.iload_n 2, 1) := by decide +kernel
theorem dX5_takes_96 : decode cX5_takes 96 = .ok (.bipush 16, 2) := by decide +kernel
theorem dX5_takes_98 : decode cX5_takes 98 = .ok (.idiv, 1) := by decide +kernel
theorem dX5_takes_99 : decode cX5_takes 99 = .ok (.iload_n 2, 1) := by decide +kernel
theorem dX5_takes_100 : decode cX5_takes 100 = .ok (.bipush 16, 2) := by decide +kernel
theorem dX5_takes_102 : decode cX5_takes 102 = .ok (.irem, 1) := by decide +kernel
theorem dX5_takes_103 : decode cX5_takes 103 = .ok (.invokevirtual 88, 3) := by decide +kernel
theorem dX5_takes_106 : decode cX5_takes 106 = .ok (.aload_n 0, 1) := by decide +kernel
theorem dX5_takes_107 : decode cX5_takes 107 = .ok (.iload_n 2, 1) := by decide +kernel
theorem dX5_takes_108 : decode cX5_takes 108 = .ok (.bipush 16, 2) := by decide +kernel
theorem dX5_takes_110 : decode cX5_takes 110 = .ok (.idiv, 1) := by decide +kernel
theorem dX5_takes_111 : decode cX5_takes 111 = .ok (.iload_n 2, 1) := by decide +kernel
theorem dX5_takes_112 : decode cX5_takes 112 = .ok (.bipush 16, 2) := by decide +kernel
theorem dX5_takes_114 : decode cX5_takes 114 = .ok (.irem, 1) := by decide +kernel
theorem dX5_takes_115 : decode cX5_takes 115 = .ok (.invokevirtual 84, 3) := by decide +kernel
theorem dX5_takes_118 : decode cX5_takes 118 = .ok (.isub, 1) := by decide +kernel
theorem dX5_takes_119 : decode cX5_takes 119 = .ok (.iastore, 1) := by decide +kernel
theorem dX5_takes_120 : decode cX5_takes 120 = .ok (.return_, 1) := by decide +kernel
theorem dX5_place_0 : decode cX5_place 0 = .ok (.sipush 1280, 3) := by decide +kernel
theorem dX5_place_3 : decode cX5_place 3 = .ok (.iload_n 2, 1) := by decide +kernel
theorem dX5_place_4 : decode cX5_place 4 = .ok (.iconst 2, 1) := by decide +kernel
theorem dX5_place_5 : decode cX5_place 5 = .ok (.irem, 1) := by decide +kernel
theorem dX5_place_6 : decode cX5_place 6 = .ok (.imul, 1) := by decide +kernel
theorem dX5_place_7 : decode cX5_place 7 = .ok (.iload_n 1, 1) := by decide +kernel
theorem dX5_place_8 : decode cX5_place 8 = .ok (.iload_n 3, 1) := by decide +kernel
theorem dX5_place_9 : decode cX5_place 9 = .ok (.iload 4, 2) := by decide +kernel
theorem dX5_place_11 : decode cX5_place 11 = .ok (.invokestatic 97, 3) := by decide +kernel
theorem dX5_place_14 : decode cX5_place 14 = .ok (.iadd, 1) := by decide +kernel
theorem dX5_place_15 : decode cX5_place 15 = .ok (.ireturn, 1) := by decide +kernel

def wX5_thrown (a0 : Nat) (S : HS) (Q : Int32 → HS → Prop) : Prop := (ok S a0 5 ∧ Q (gI S 179 a0) S)

def wX5_fails (a0 : Nat) (x1 : Int32) (S : HS) (Q : Int32 → HS → Prop) : Prop := (ok S a0 5 ∧ (∀ S1, S1 = sI S 179 a0 x1 → ((x1 ≤ 0 → Q (0 : Int32) S1) ∧ (¬ x1 ≤ 0 → Q (1 : Int32) S1))))

def wX5_isIn (x0 : Int32) (x1 : Int32) (x2 : Int32) (S : HS) (Q : Int32 → HS → Prop) : Prop := ((x0 < x1 → Q (0 : Int32) S) ∧ (¬ x0 < x1 → ((x2 < x0 → Q (0 : Int32) S) ∧ (¬ x2 < x0 → Q (1 : Int32) S))))

def wX5_isBanner (a0 : Nat) (x1 : Int32) (S : HS) (Q : Int32 → HS → Prop) : Prop := (ok S a0 5 ∧ (wX5_isIn x1 (0 : Int32) ((gI S 161 a0) - (1 : Int32)) S (fun r1 S1 => ((r1 = 0 ∨ r1 = 1) ∧ Q r1 S1))))

def wX5_isRow (x0 : Int32) (S : HS) (Q : Int32 → HS → Prop) : Prop := (wX5_isIn x0 (0 : Int32) (7 : Int32) S (fun r1 S1 => ((r1 = 0 ∨ r1 = 1) ∧ Q r1 S1)))

def wX5_isPrinter (x0 : Int32) (S : HS) (Q : Int32 → HS → Prop) : Prop := (wX5_isIn x0 (0 : Int32) (2 : Int32) S (fun r1 S1 => ((r1 = 0 ∨ r1 = 1) ∧ Q r1 S1)))

def wX5_first (a0 : Nat) (x1 : Int32) (x2 : Int32) (S : HS) (Q : Int32 → HS → Prop) : Prop := (ok S a0 5 ∧ (∀ o1, o1 = gR S 163 a0 → (∃ q1, o1 = some q1 ∧ (ok S q1 6 ∧ vp_in x1 (gN S q1) ∧ (ok S a0 5 ∧ (∀ o2, o2 = gR S 164 a0 → (∃ q2, o2 = some q2 ∧ (ok S q2 6 ∧ vp_in x1 (gN S q2) ∧ Q (x2 * ((gA S q1 x1.toNatClampNeg) - (gA S q2 x1.toNatClampNeg))) S))))))))

def wX5_end (a0 : Nat) (x1 : Int32) (x2 : Int32) (S : HS) (Q : Int32 → HS → Prop) : Prop := (ok S a0 5 ∧ (wX5_first a0 x1 x2 S (fun r1 S1 => (ok S1 a0 5 ∧ (∀ o1, o1 = gR S1 163 a0 → (∃ q1, o1 = some q1 ∧ (ok S1 q1 6 ∧ vp_in x1 (gN S1 q1) ∧ (ok S1 a0 5 ∧ (∀ o2, o2 = gR S1 162 a0 → (∃ q2, o2 = some q2 ∧ (ok S1 q2 6 ∧ vp_in x1 (gN S1 q2) ∧ (((gA S1 q2 x1.toNatClampNeg) ≤ (r1 + (gA S1 q1 x1.toNatClampNeg)) → (ok S1 a0 5 ∧ (∀ o3, o3 = gR S1 162 a0 → (∃ q3, o3 = some q3 ∧ (ok S1 q3 6 ∧ vp_in x1 (gN S1 q3) ∧ Q (gA S1 q3 x1.toNatClampNeg) S1))))) ∧ (¬ (gA S1 q2 x1.toNatClampNeg) ≤ (r1 + (gA S1 q1 x1.toNatClampNeg)) → Q (r1 + (gA S1 q1 x1.toNatClampNeg)) S1)))))))))))))
def wX5_stripsOf_L2 (c0 : Nat) (c1 : Int32) : Nat → Int32 → HS → (Int32 → HS → Prop) → Prop
  | 0, _, _, _ => False
  | n + 1, m2, S, K => (ok S c0 5 ∧ (wX5_end c0 c1 (m2 - (1 : Int32)) S (fun r1 S1 => (ok S1 c0 5 ∧ (∀ o1, o1 = gR S1 162 c0 → (∃ q1, o1 = some q1 ∧ (ok S1 q1 6 ∧ vp_in c1 (gN S1 q1) ∧ (((gA S1 q1 c1.toNatClampNeg) ≤ r1 → K m2 S1) ∧ (¬ (gA S1 q1 c1.toNatClampNeg) ≤ r1 → wX5_stripsOf_L2 c0 c1 n (m2 + (1 : Int32)) S1 K)))))))))
def wX5_stripsOf (a0 : Nat) (x1 : Int32) (S : HS) (Q : Int32 → HS → Prop) : Prop := (∃ n1 : Nat, wX5_stripsOf_L2 a0 x1 n1 (1 : Int32) S (fun u1 S2 => Q u1 S2))

def wX5_isStrip (a0 : Nat) (x1 : Int32) (x2 : Int32) (S : HS) (Q : Int32 → HS → Prop) : Prop := (ok S a0 5 ∧ (wX5_isBanner a0 x1 S (fun r1 S1 => ((r1 = 0 → Q (0 : Int32) S1) ∧ (¬ r1 = 0 → (ok S1 a0 5 ∧ (wX5_stripsOf a0 x1 S1 (fun r2 S2 => (wX5_isIn x2 (0 : Int32) (r2 - (1 : Int32)) S2 (fun r3 S3 => ((r3 = 0 → Q (0 : Int32) S3) ∧ (¬ r3 = 0 → Q (1 : Int32) S3))))))))))))

def wX5_isDot (a0 : Nat) (x1 : Int32) (x2 : Int32) (x3 : Int32) (S : HS) (Q : Int32 → HS → Prop) : Prop := (ok S a0 5 ∧ (wX5_isBanner a0 x1 S (fun r1 S1 => ((r1 = 0 → Q (0 : Int32) S1) ∧ (¬ r1 = 0 → (wX5_isRow x2 S1 (fun r2 S2 => ((r2 = 0 → Q (0 : Int32) S2) ∧ (¬ r2 = 0 → (ok S2 a0 5 ∧ (∀ o1, o1 = gR S2 162 a0 → (∃ q1, o1 = some q1 ∧ (ok S2 q1 6 ∧ vp_in x1 (gN S2 q1) ∧ (wX5_isIn x3 (0 : Int32) ((gA S2 q1 x1.toNatClampNeg) - (1 : Int32)) S2 (fun r3 S3 => ((r3 = 0 → Q (0 : Int32) S3) ∧ (¬ r3 = 0 → Q (1 : Int32) S3)))))))))))))))))

def wX5_dot (x0 : Int32) (x1 : Int32) (x2 : Int32) (S : HS) (Q : Int32 → HS → Prop) : Prop := Q (((32 : Int32) * (((8 : Int32) * x0) + x1)) + x2) S

def wX5_has (a0 : Nat) (x1 : Int32) (x2 : Int32) (x3 : Int32) (S : HS) (Q : Int32 → HS → Prop) : Prop := (ok S a0 5 ∧ (wX5_stripsOf a0 x1 S (fun r1 S1 => (wX5_isIn x2 (0 : Int32) (r1 - (1 : Int32)) S1 (fun r2 S2 => ((r2 = 0 → Q (0 : Int32) S2) ∧ (¬ r2 = 0 → (ok S2 a0 5 ∧ (wX5_first a0 x1 x2 S2 (fun r3 S3 => (ok S3 a0 5 ∧ (wX5_end a0 x1 x2 S3 (fun r4 S4 => (wX5_isIn x3 r3 (r4 - (1 : Int32)) S4 (fun r5 S5 => ((r5 = 0 → Q (0 : Int32) S5) ∧ (¬ r5 = 0 → Q (1 : Int32) S5)))))))))))))))))

def wX5_lays (a0 : Nat) (x1 : Int32) (x2 : Int32) (x3 : Int32) (x4 : Int32) (S : HS) (Q : Int32 → HS → Prop) : Prop := (ok S a0 5 ∧ (∀ o1, o1 = gR S 167 a0 → (wX5_dot x1 x3 x4 S (fun r1 S1 => (∃ q1, o1 = some q1 ∧ (ok S1 q1 6 ∧ vp_in r1 (gN S1 q1) ∧ (ok S1 a0 5 ∧ (wX5_has a0 x1 x2 x4 S1 (fun r2 S2 => ((¬ r2 = 0 → (ok S2 a0 5 ∧ (wX5_has a0 x1 (x2 + (1 : Int32)) x4 S2 (fun r3 S3 => ((r3 = 0 → (ok S3 a0 5 ∧ (wX5_has a0 x1 (x2 - (1 : Int32)) x4 S3 (fun r4 S4 => ((r4 = 0 → Q (gA S1 q1 r1.toNatClampNeg) S4) ∧ (¬ r4 = 0 → Q ((gA S1 q1 r1.toNatClampNeg) / (2 : Int32)) S4)))))) ∧ (¬ r3 = 0 → Q (((gA S1 q1 r1.toNatClampNeg) + (1 : Int32)) / (2 : Int32)) S3)))))) ∧ (r2 = 0 → Q (0 : Int32) S2)))))))))))
def wX5_blocked_L4 (c0 : Nat) (c1 : Int32) : Nat → Int32 → Int32 → HS → (Int32 → Int32 → HS → Prop) → Prop
  | 0, _, _, _, _ => False
  | n + 1, m2, m3, S, K => (((8 : Int32) ≤ m3 → K m2 m3 S) ∧ (¬ (8 : Int32) ≤ m3 → (ok S c0 5 ∧ (∀ o1, o1 = gR S 174 c0 → (∃ q1, o1 = some q1 ∧ (ok S q1 7 ∧ vp_in (((8 : Int32) * c1) + m3) (gN S q1) ∧ (((gA S q1 (((8 : Int32) * c1) + m3).toNatClampNeg) = 0 → wX5_blocked_L4 c0 c1 n (m2 + (0 : Int32)) (m3 + (1 : Int32)) S K) ∧ (¬ (gA S q1 (((8 : Int32) * c1) + m3).toNatClampNeg) = 0 → wX5_blocked_L4 c0 c1 n (m2 + (1 : Int32)) (m3 + (1 : Int32)) S K))))))))
def wX5_blocked (a0 : Nat) (x1 : Int32) (S : HS) (Q : Int32 → HS → Prop) : Prop := (∃ n1 : Nat, wX5_blocked_L4 a0 x1 n1 (0 : Int32) (0 : Int32) S (fun u1 u2 S1 => Q u1 S1))

def wX5_wants (a0 : Nat) (x1 : Int32) (x2 : Int32) (x3 : Int32) (S : HS) (Q : HS → Prop) : Prop := (ok S a0 5 ∧ (∀ o1, o1 = gR S 173 a0 → (∃ q1, o1 = some q1 ∧ (ok S q1 6 ∧ vp_in x1 (gN S q1) ∧ (ok S a0 5 ∧ (∀ o2, o2 = gR S 178 a0 → ((((x3 * (gA S q1 x1.toNatClampNeg)) / (100 : Int32)) ≤ (15 : Int32) → (∃ q2, o2 = some q2 ∧ (ok S q2 6 ∧ vp_in x2 (gN S q2) ∧ (∀ S1, S1 = sA S q2 x2.toNatClampNeg ((x3 * (gA S q1 x1.toNatClampNeg)) / (100 : Int32)) → Q S1)))) ∧ (¬ ((x3 * (gA S q1 x1.toNatClampNeg)) / (100 : Int32)) ≤ (15 : Int32) → (∃ q3, o2 = some q3 ∧ (ok S q3 6 ∧ vp_in x2 (gN S q3) ∧ (∀ S2, S2 = sA S q3 x2.toNatClampNeg (15 : Int32) → Q S2)))))))))))

def wX5_isOff (a0 : Nat) (x1 : Int32) (x2 : Int32) (S : HS) (Q : Int32 → HS → Prop) : Prop := (wX5_isRow x2 S (fun r1 S1 => ((r1 = 0 → Q (0 : Int32) S1) ∧ (¬ r1 = 0 → (ok S1 a0 5 ∧ (∀ o1, o1 = gR S1 174 a0 → (∃ q1, o1 = some q1 ∧ (ok S1 q1 7 ∧ vp_in (((8 : Int32) * x1) + x2) (gN S1 q1) ∧ (((gA S1 q1 (((8 : Int32) * x1) + x2).toNatClampNeg) = 0 → Q (0 : Int32) S1) ∧ (¬ (gA S1 q1 (((8 : Int32) * x1) + x2).toNatClampNeg) = 0 → Q (1 : Int32) S1))))))))))
def wX5_nozzle_J74 (v0 : Nat) (v1 : Int32) (t0 : Int32) (t1 : Int32) (S : HS) (Q : Int32 → HS → Prop) : Prop := (((t1 + t0) ≤ (15 : Int32) → (ok S v0 5 ∧ (∀ o2, o2 = gR S 172 v0 → (∃ q2, o2 = some q2 ∧ (ok S q2 6 ∧ vp_in v1 (gN S q2) ∧ Q (((t1 + t0) * (gA S q2 v1.toNatClampNeg)) / (100 : Int32)) S))))) ∧ (¬ (t1 + t0) ≤ (15 : Int32) → (ok S v0 5 ∧ (∀ o3, o3 = gR S 172 v0 → (∃ q3, o3 = some q3 ∧ (ok S q3 6 ∧ vp_in v1 (gN S q3) ∧ Q (((15 : Int32) * (gA S q3 v1.toNatClampNeg)) / (100 : Int32)) S))))))
def wX5_nozzle_J46 (v0 : Nat) (v1 : Int32) (v2 : Int32) (t0 : Int32) (t1 : Int32) (S : HS) (Q : Int32 → HS → Prop) : Prop := (ok S v0 5 ∧ (wX5_isOff v0 v1 (v2 - (1 : Int32)) S (fun r3 S3 => ((r3 = 0 → wX5_nozzle_J74 v0 v1 (0 : Int32) (t1 + t0) S3 Q) ∧ (¬ r3 = 0 → (ok S3 v0 5 ∧ (∀ o4, o4 = gR S3 178 v0 → (∃ q4, o4 = some q4 ∧ (ok S3 q4 6 ∧ vp_in (v2 - (1 : Int32)) (gN S3 q4) ∧ wX5_nozzle_J74 v0 v1 ((gA S3 q4 (v2 - (1 : Int32)).toNatClampNeg) / (2 : Int32)) (t1 + t0) S3 Q)))))))))
def wX5_nozzle (a0 : Nat) (x1 : Int32) (x2 : Int32) (S : HS) (Q : Int32 → HS → Prop) : Prop := (ok S a0 5 ∧ (wX5_isOff a0 x1 x2 S (fun r1 S1 => ((r1 = 0 → (ok S1 a0 5 ∧ (∀ o1, o1 = gR S1 178 a0 → (∃ q1, o1 = some q1 ∧ (ok S1 q1 6 ∧ vp_in x2 (gN S1 q1) ∧ (ok S1 a0 5 ∧ (wX5_isOff a0 x1 (x2 + (1 : Int32)) S1 (fun r2 S2 => ((r2 = 0 → wX5_nozzle_J46 a0 x1 x2 (0 : Int32) (gA S1 q1 x2.toNatClampNeg) S2 Q) ∧ (¬ r2 = 0 → (ok S2 a0 5 ∧ (∀ o5, o5 = gR S2 178 a0 → (∃ q5, o5 = some q5 ∧ (ok S2 q5 6 ∧ vp_in (x2 + (1 : Int32)) (gN S2 q5) ∧ wX5_nozzle_J46 a0 x1 x2 (((gA S2 q5 (x2 + (1 : Int32)).toNatClampNeg) + (1 : Int32)) / (2 : Int32)) (gA S1 q1 x2.toNatClampNeg) S2 Q)))))))))))))) ∧ (¬ r1 = 0 → Q (0 : Int32) S1)))))
def wX5_isPrinting_L4 (c0 : Nat) (c1 : Int32) : Nat → Int32 → Int32 → HS → (Int32 → Int32 → HS → Prop) → Prop
  | 0, _, _, _, _ => False
  | n + 1, m2, m3, S, K => (((3 : Int32) ≤ m3 → K m2 m3 S) ∧ (¬ (3 : Int32) ≤ m3 → ((¬ m2 = 0 → wX5_isPrinting_L4 c0 c1 n (1 : Int32) (m3 + (1 : Int32)) S K) ∧ (m2 = 0 → (ok S c0 5 ∧ (∀ o1, o1 = gR S 176 c0 → (∃ q1, o1 = some q1 ∧ (ok S q1 6 ∧ vp_in m3 (gN S q1) ∧ ((¬ (gA S q1 m3.toNatClampNeg) = c1 → wX5_isPrinting_L4 c0 c1 n (0 : Int32) (m3 + (1 : Int32)) S K) ∧ ((gA S q1 m3.toNatClampNeg) = c1 → wX5_isPrinting_L4 c0 c1 n (1 : Int32) (m3 + (1 : Int32)) S K))))))))))
def wX5_isPrinting (a0 : Nat) (x1 : Int32) (S : HS) (Q : Int32 → HS → Prop) : Prop := (∃ n1 : Nat, wX5_isPrinting_L4 a0 x1 n1 (0 : Int32) (0 : Int32) S (fun u1 u2 S1 => ((u1 = 0 ∨ u1 = 1) ∧ Q u1 S1)))
def wX5_takes_L4 (c0 : Nat) (c1 : Int32) : Nat → Int32 → Int32 → HS → (Int32 → Int32 → HS → Prop) → Prop
  | 0, _, _, _, _ => False
  | n + 1, m2, m3, S, K => (((80 : Int32) ≤ m3 → K m2 m3 S) ∧ (¬ (80 : Int32) ≤ m3 → (ok S c0 5 ∧ (∀ o1, o1 = gR S 169 c0 → (∃ q1, o1 = some q1 ∧ (ok S q1 6 ∧ vp_in m3 (gN S q1) ∧ ((¬ (gA S q1 m3.toNatClampNeg) = c1 → wX5_takes_L4 c0 c1 n m2 (m3 + (1 : Int32)) S K) ∧ ((gA S q1 m3.toNatClampNeg) = c1 → ((m2 = (-1 : Int32) → wX5_takes_L4 c0 c1 n m3 (m3 + (1 : Int32)) S K) ∧ (¬ m2 = (-1 : Int32) → (ok S c0 5 ∧ (∀ o2, o2 = gR S 166 c0 → (∃ q2, o2 = some q2 ∧ (ok S q2 6 ∧ vp_in (m3 / (16 : Int32)) (gN S q2) ∧ (ok S c0 5 ∧ (∀ o3, o3 = gR S 166 c0 → (∃ q3, o3 = some q3 ∧ (ok S q3 6 ∧ vp_in (m2 / (16 : Int32)) (gN S q3) ∧ (((gA S q3 (m2 / (16 : Int32)).toNatClampNeg) ≤ (gA S q2 (m3 / (16 : Int32)).toNatClampNeg) → wX5_takes_L4 c0 c1 n m2 (m3 + (1 : Int32)) S K) ∧ (¬ (gA S q3 (m2 / (16 : Int32)).toNatClampNeg) ≤ (gA S q2 (m3 / (16 : Int32)).toNatClampNeg) → wX5_takes_L4 c0 c1 n m3 (m3 + (1 : Int32)) S K))))))))))))))))))))
def wX5_takes (a0 : Nat) (x1 : Int32) (S : HS) (Q : HS → Prop) : Prop := (∃ n1 : Nat, wX5_takes_L4 a0 x1 n1 (-1 : Int32) (0 : Int32) S (fun u1 u2 S1 => ((u1 = (-1 : Int32) → Q S1) ∧ (¬ u1 = (-1 : Int32) → (ok S1 a0 5 ∧ (∀ o4, o4 = gR S1 169 a0 → (∃ q4, o4 = some q4 ∧ (ok S1 q4 6 ∧ vp_in u1 (gN S1 q4) ∧ (∀ S2, S2 = sA S1 q4 u1.toNatClampNeg (-1 : Int32) → (ok S2 a0 5 ∧ (∀ o5, o5 = gR S2 176 a0 → (∃ q5, o5 = some q5 ∧ (ok S2 q5 6 ∧ vp_in x1 (gN S2 q5) ∧ (∀ S3, S3 = sA S2 q5 x1.toNatClampNeg u1 → (ok S3 a0 5 ∧ (∀ o6, o6 = gR S3 177 a0 → (ok S3 a0 5 ∧ (wX5_end a0 (u1 / (16 : Int32)) (u1 - u1 / (16 : Int32) * (16 : Int32)) S3 (fun r1 S4 => (ok S4 a0 5 ∧ (wX5_first a0 (u1 / (16 : Int32)) (u1 - u1 / (16 : Int32) * (16 : Int32)) S4 (fun r2 S5 => (∃ q6, o6 = some q6 ∧ (ok S5 q6 6 ∧ vp_in x1 (gN S5 q6) ∧ (∀ S6, S6 = sA S5 q6 x1.toNatClampNeg (r1 - r2) → Q S6)))))))))))))))))))))))))

def wX5_place (a0 : Nat) (x1 : Int32) (x2 : Int32) (x3 : Int32) (x4 : Int32) (S : HS) (Q : Int32 → HS → Prop) : Prop := (wX5_dot x1 x3 x4 S (fun r1 S1 => Q (((1280 : Int32) * (x2 - x2 / (2 : Int32) * (2 : Int32))) + r1) S1))
theorem kF_RX5_62 : Cond.fieldLink RX5 62 RX5 (TX5 19).2.1 (TX5 19).2.2.1 ∈ T0 := T0_mem (i := 640) (by decide +kernel) (by decide +kernel)
theorem inT_5 : ∀ w ∈ u_ws RX5 TX5 20, w ∈ T0 := inT [641, 643, 645, 647, 649, 651, 653, 655, 657, 659, 661, 663, 665, 667, 669, 671, 673, 675, 677, 679] (by decide +kernel) (by decide +kernel)
theorem kF_RX5_66 : Cond.fieldLink RX5 66 RX5 (TX5 1).2.1 (TX5 1).2.2.1 ∈ T0 := T0_mem (i := 622) (by decide +kernel) (by decide +kernel)
theorem kC_X5_isIn : Cond.code yX5_isIn cX5_isIn 3 (some .boolean) ∈ T0 := T0_mem (i := 692) (by decide +kernel) (by decide +kernel)
theorem kI_RX5 : Cond.initialized RX5 ∈ T0 := T0_mem (i := 35) (by decide +kernel) (by decide +kernel)
theorem kM_RX5_69 : Cond.methodLink RX5 69 yX5_isIn ∈ T0 := T0_mem (i := 690) (by decide +kernel) (by decide +kernel)
theorem hd_X5_isIn : yX5_isIn.cls ≠ "java/lang/invoke/MethodHandle" ∧ yX5_isIn.cls ≠ "java/lang/invoke/VarHandle" ∧ (parseMethodDescriptor yX5_isIn.desc).map (fun d => d.parameters.length) = some 3 := by decide +kernel
theorem kS_X5_isIn : Cond.static yX5_isIn ∈ T0 := T0_mem (i := 691) (by decide +kernel) (by decide +kernel)
theorem kF_RX5_13 : Cond.fieldLink RX5 13 RX5 (TX5 3).2.1 (TX5 3).2.2.1 ∈ T0 := T0_mem (i := 624) (by decide +kernel) (by decide +kernel)
theorem kF_RX5_16 : Cond.fieldLink RX5 16 RX5 (TX5 4).2.1 (TX5 4).2.2.1 ∈ T0 := T0_mem (i := 625) (by decide +kernel) (by decide +kernel)
theorem kC_X5_first : Cond.code yX5_first cX5_first 3 (some .int) ∈ T0 := T0_mem (i := 730) (by decide +kernel) (by decide +kernel)
theorem kM_RX5_84 : Cond.methodLink RX5 84 yX5_first ∈ T0 := T0_mem (i := 727) (by decide +kernel) (by decide +kernel)
theorem hd_X5_first : yX5_first.cls ≠ "java/lang/invoke/MethodHandle" ∧ yX5_first.cls ≠ "java/lang/invoke/VarHandle" ∧ (parseMethodDescriptor yX5_first.desc).map (fun d => d.parameters.length) = some 2 := by decide +kernel
theorem kO_X5_first : Cond.instanceMethod yX5_first ∈ T0 := T0_mem (i := 729) (by decide +kernel) (by decide +kernel)
theorem kV_X5_first : Cond.selects RX5 yX5_first yX5_first ∈ T0 := T0_mem (i := 16) (by decide +kernel) (by decide +kernel)
theorem kF_RX5_7 : Cond.fieldLink RX5 7 RX5 (TX5 2).2.1 (TX5 2).2.2.1 ∈ T0 := T0_mem (i := 623) (by decide +kernel) (by decide +kernel)
theorem kC_X5_end : Cond.code yX5_end cX5_end 4 (some .int) ∈ T0 := T0_mem (i := 726) (by decide +kernel) (by decide +kernel)
theorem kM_RX5_88 : Cond.methodLink RX5 88 yX5_end ∈ T0 := T0_mem (i := 723) (by decide +kernel) (by decide +kernel)
theorem hd_X5_end : yX5_end.cls ≠ "java/lang/invoke/MethodHandle" ∧ yX5_end.cls ≠ "java/lang/invoke/VarHandle" ∧ (parseMethodDescriptor yX5_end.desc).map (fun d => d.parameters.length) = some 2 := by decide +kernel
theorem kO_X5_end : Cond.instanceMethod yX5_end ∈ T0 := T0_mem (i := 725) (by decide +kernel) (by decide +kernel)
theorem kV_X5_end : Cond.selects RX5 yX5_end yX5_end ∈ T0 := T0_mem (i := 15) (by decide +kernel) (by decide +kernel)
theorem kC_X5_isBanner : Cond.code yX5_isBanner cX5_isBanner 2 (some .boolean) ∈ T0 := T0_mem (i := 708) (by decide +kernel) (by decide +kernel)
theorem kM_RX5_73 : Cond.methodLink RX5 73 yX5_isBanner ∈ T0 := T0_mem (i := 705) (by decide +kernel) (by decide +kernel)
theorem hd_X5_isBanner : yX5_isBanner.cls ≠ "java/lang/invoke/MethodHandle" ∧ yX5_isBanner.cls ≠ "java/lang/invoke/VarHandle" ∧ (parseMethodDescriptor yX5_isBanner.desc).map (fun d => d.parameters.length) = some 1 := by decide +kernel
theorem kO_X5_isBanner : Cond.instanceMethod yX5_isBanner ∈ T0 := T0_mem (i := 707) (by decide +kernel) (by decide +kernel)
theorem kV_X5_isBanner : Cond.selects RX5 yX5_isBanner yX5_isBanner ∈ T0 := T0_mem (i := 13) (by decide +kernel) (by decide +kernel)
theorem kC_X5_stripsOf : Cond.code yX5_stripsOf cX5_stripsOf 3 (some .int) ∈ T0 := T0_mem (i := 722) (by decide +kernel) (by decide +kernel)
theorem kM_RX5_77 : Cond.methodLink RX5 77 yX5_stripsOf ∈ T0 := T0_mem (i := 719) (by decide +kernel) (by decide +kernel)
theorem hd_X5_stripsOf : yX5_stripsOf.cls ≠ "java/lang/invoke/MethodHandle" ∧ yX5_stripsOf.cls ≠ "java/lang/invoke/VarHandle" ∧ (parseMethodDescriptor yX5_stripsOf.desc).map (fun d => d.parameters.length) = some 1 := by decide +kernel
theorem kO_X5_stripsOf : Cond.instanceMethod yX5_stripsOf ∈ T0 := T0_mem (i := 721) (by decide +kernel) (by decide +kernel)
theorem kV_X5_stripsOf : Cond.selects RX5 yX5_stripsOf yX5_stripsOf ∈ T0 := T0_mem (i := 14) (by decide +kernel) (by decide +kernel)
theorem kC_X5_isRow : Cond.code yX5_isRow cX5_isRow 1 (some .boolean) ∈ T0 := T0_mem (i := 711) (by decide +kernel) (by decide +kernel)
theorem kM_RX5_81 : Cond.methodLink RX5 81 yX5_isRow ∈ T0 := T0_mem (i := 709) (by decide +kernel) (by decide +kernel)
theorem hd_X5_isRow : yX5_isRow.cls ≠ "java/lang/invoke/MethodHandle" ∧ yX5_isRow.cls ≠ "java/lang/invoke/VarHandle" ∧ (parseMethodDescriptor yX5_isRow.desc).map (fun d => d.parameters.length) = some 1 := by decide +kernel
theorem kS_X5_isRow : Cond.static yX5_isRow ∈ T0 := T0_mem (i := 710) (by decide +kernel) (by decide +kernel)
theorem kF_RX5_25 : Cond.fieldLink RX5 25 RX5 (TX5 7).2.1 (TX5 7).2.2.1 ∈ T0 := T0_mem (i := 628) (by decide +kernel) (by decide +kernel)
theorem kC_X5_dot : Cond.code yX5_dot cX5_dot 3 (some .int) ∈ T0 := T0_mem (i := 714) (by decide +kernel) (by decide +kernel)
theorem kM_RX5_97 : Cond.methodLink RX5 97 yX5_dot ∈ T0 := T0_mem (i := 712) (by decide +kernel) (by decide +kernel)
theorem hd_X5_dot : yX5_dot.cls ≠ "java/lang/invoke/MethodHandle" ∧ yX5_dot.cls ≠ "java/lang/invoke/VarHandle" ∧ (parseMethodDescriptor yX5_dot.desc).map (fun d => d.parameters.length) = some 3 := by decide +kernel
theorem kS_X5_dot : Cond.static yX5_dot ∈ T0 := T0_mem (i := 713) (by decide +kernel) (by decide +kernel)
theorem kC_X5_has : Cond.code yX5_has cX5_has 4 (some .boolean) ∈ T0 := T0_mem (i := 746) (by decide +kernel) (by decide +kernel)
theorem kM_RX5_101 : Cond.methodLink RX5 101 yX5_has ∈ T0 := T0_mem (i := 743) (by decide +kernel) (by decide +kernel)
theorem hd_X5_has : yX5_has.cls ≠ "java/lang/invoke/MethodHandle" ∧ yX5_has.cls ≠ "java/lang/invoke/VarHandle" ∧ (parseMethodDescriptor yX5_has.desc).map (fun d => d.parameters.length) = some 3 := by decide +kernel
theorem kO_X5_has : Cond.instanceMethod yX5_has ∈ T0 := T0_mem (i := 745) (by decide +kernel) (by decide +kernel)
theorem kV_X5_has : Cond.selects RX5 yX5_has yX5_has ∈ T0 := T0_mem (i := 19) (by decide +kernel) (by decide +kernel)
theorem kF_RX5_46 : Cond.fieldLink RX5 46 RX5 (TX5 14).2.1 (TX5 14).2.2.1 ∈ T0 := T0_mem (i := 635) (by decide +kernel) (by decide +kernel)
theorem kF_RX5_43 : Cond.fieldLink RX5 43 RX5 (TX5 13).2.1 (TX5 13).2.2.1 ∈ T0 := T0_mem (i := 634) (by decide +kernel) (by decide +kernel)
theorem kF_RX5_59 : Cond.fieldLink RX5 59 RX5 (TX5 18).2.1 (TX5 18).2.2.1 ∈ T0 := T0_mem (i := 639) (by decide +kernel) (by decide +kernel)
theorem kC_X5_isOff : Cond.code yX5_isOff cX5_isOff 3 (some .boolean) ∈ T0 := T0_mem (i := 785) (by decide +kernel) (by decide +kernel)
theorem kM_RX5_118 : Cond.methodLink RX5 118 yX5_isOff ∈ T0 := T0_mem (i := 782) (by decide +kernel) (by decide +kernel)
theorem hd_X5_isOff : yX5_isOff.cls ≠ "java/lang/invoke/MethodHandle" ∧ yX5_isOff.cls ≠ "java/lang/invoke/VarHandle" ∧ (parseMethodDescriptor yX5_isOff.desc).map (fun d => d.parameters.length) = some 2 := by decide +kernel
theorem kO_X5_isOff : Cond.instanceMethod yX5_isOff ∈ T0 := T0_mem (i := 784) (by decide +kernel) (by decide +kernel)
theorem kV_X5_isOff : Cond.selects RX5 yX5_isOff yX5_isOff ∈ T0 := T0_mem (i := 23) (by decide +kernel) (by decide +kernel)
theorem kF_RX5_40 : Cond.fieldLink RX5 40 RX5 (TX5 12).2.1 (TX5 12).2.2.1 ∈ T0 := T0_mem (i := 633) (by decide +kernel) (by decide +kernel)
theorem kF_RX5_53 : Cond.fieldLink RX5 53 RX5 (TX5 16).2.1 (TX5 16).2.2.1 ∈ T0 := T0_mem (i := 637) (by decide +kernel) (by decide +kernel)
theorem kF_RX5_31 : Cond.fieldLink RX5 31 RX5 (TX5 9).2.1 (TX5 9).2.2.1 ∈ T0 := T0_mem (i := 630) (by decide +kernel) (by decide +kernel)
theorem kF_RX5_22 : Cond.fieldLink RX5 22 RX5 (TX5 6).2.1 (TX5 6).2.2.1 ∈ T0 := T0_mem (i := 627) (by decide +kernel) (by decide +kernel)
theorem kF_RX5_56 : Cond.fieldLink RX5 56 RX5 (TX5 17).2.1 (TX5 17).2.2.1 ∈ T0 := T0_mem (i := 638) (by decide +kernel) (by decide +kernel)
set_option maxHeartbeats 4000000 in
set_option maxRecDepth 100000 in
theorem met_X5_thrown (l : Launch) (a0 : Nat) : MI l yX5_thrown cX5_thrown 1 (some .int) 0 0 0 0 [.ref a0] (wX5_thrown a0) := by
  refine MI.of (by decide) (Nat.le_of_ble_eq_true rfl) ?_
  intro p e s m below meth c D cs lo S Q ls B hr hlk hin
  intro h hl hw
  replace hl : lv_has ls 1 [(0, .ref a0)] := hl
  refine lv_aload_n B.1.1 B.1.2.1 dX5_thrown_0 rfl (lv_at hl 0 rfl) ?_
  obtain ⟨hok, hw⟩ := hw
  refine q_getI B h (ci := 5) (j := 19) (code := 179) rfl inT_5 (by decide) kF_RX5_62 rfl rfl rfl (by decide) dX5_thrown_1 hok.1 hok.2 ?_
  exact q_iret B hr hlk h hw dX5_thrown_4 (Nat.le_of_ble_eq_true rfl) (Nat.le_of_ble_eq_true rfl)
set_option maxHeartbeats 4000000 in
set_option maxRecDepth 100000 in
theorem met_X5_fails (l : Launch) (a0 : Nat) (x1 : Int32) : MI l yX5_fails cX5_fails 2 (some .boolean) 0 0 0 0 [.ref a0, .int x1] (wX5_fails a0 x1) := by
  refine MI.of (by decide) (Nat.le_of_ble_eq_true rfl) ?_
  intro p e s m below meth c D cs lo S Q ls B hr hlk hin
  intro h hl hw
  replace hl : lv_has ls 2 [(0, .ref a0), (1, .int x1)] := hl
  refine lv_aload_n B.1.1 B.1.2.1 dX5_fails_0 rfl (lv_at hl 0 rfl) ?_
  refine lv_iload_n B.1.1 B.1.2.1 dX5_fails_1 rfl (lv_at hl 1 rfl) ?_
  obtain ⟨hok, hw⟩ := hw
  refine q_putI B h (ci := 5) (j := 19) (code := 179) (v := x1) rfl inT_5 tyX5 tyX5_ok nmX5 (by decide) kF_RX5_62 rfl rfl rfl rfl (by decide) (by first | rfl | decide) (by first | rfl | decide) dX5_fails_2 hok.1 hok.2 (fun H locs h9 => ?_)
  obtain ⟨S1, hS1, hh⟩ : ∃ z, z = sI S 179 a0 x1 ∧ Hx D cs lo s z H locs := ⟨_, rfl, h9⟩
  clear h9
  replace h := hh
  clear hh
  replace hw := hw S1 hS1
  refine lv_iload_n B.1.1 B.1.2.1 dX5_fails_5 rfl (lv_at hl 1 rfl) ?_
  refine lv_if_le (tgt := 13) B.1.1 B.1.2.1 dX5_fails_6 (by decide) (fun hc => ?_) (fun hc => ?_)
  · replace hw := hw.1 hc
    refine lv_iconst (v := (0 : Int32)) B.1.1 B.1.2.1 dX5_fails_13 (by decide) ?_
    exact q_zret B hr hlk h (by decide) hw dX5_fails_14 (Nat.le_of_ble_eq_true rfl) (Nat.le_of_ble_eq_true rfl)
  · replace hw := hw.2 hc
    refine lv_iconst (v := (1 : Int32)) B.1.1 B.1.2.1 dX5_fails_9 (by decide) ?_
    refine lv_goto (tgt := 14) B.1.1 B.1.2.1 dX5_fails_10 (by decide) ?_
    exact q_zret B hr hlk h (by decide) hw dX5_fails_14 (Nat.le_of_ble_eq_true rfl) (Nat.le_of_ble_eq_true rfl)
set_option maxHeartbeats 4000000 in
set_option maxRecDepth 100000 in
theorem met_X5_isIn (l : Launch) (x0 : Int32) (x1 : Int32) (x2 : Int32) : MI l yX5_isIn cX5_isIn 3 (some .boolean) 0 0 0 0 [.int x0, .int x1, .int x2] (wX5_isIn x0 x1 x2) := by
  refine MI.of (by decide) (Nat.le_of_ble_eq_true rfl) ?_
  intro p e s m below meth c D cs lo S Q ls B hr hlk hin
  intro h hl hw
  replace hl : lv_has ls 3 [(0, .int x0), (1, .int x1), (2, .int x2)] := hl
  refine lv_iload_n B.1.1 B.1.2.1 dX5_isIn_0 rfl (lv_at hl 0 rfl) ?_
  refine lv_iload_n B.1.1 B.1.2.1 dX5_isIn_1 rfl (lv_at hl 1 rfl) ?_
  refine lv_icmp_lt (tgt := 14) B.1.1 B.1.2.1 dX5_isIn_2 (by decide) (fun hc => ?_) (fun hc => ?_)
  · replace hw := hw.1 hc
    refine lv_iconst (v := (0 : Int32)) B.1.1 B.1.2.1 dX5_isIn_14 (by decide) ?_
    exact q_zret B hr hlk h (by decide) hw dX5_isIn_15 (Nat.le_of_ble_eq_true rfl) (Nat.le_of_ble_eq_true rfl)
  · replace hw := hw.2 hc
    refine lv_iload_n B.1.1 B.1.2.1 dX5_isIn_5 rfl (lv_at hl 0 rfl) ?_
    refine lv_iload_n B.1.1 B.1.2.1 dX5_isIn_6 rfl (lv_at hl 2 rfl) ?_
    refine lv_icmp_gt (tgt := 14) B.1.1 B.1.2.1 dX5_isIn_7 (by decide) (fun hc => ?_) (fun hc => ?_)
    · replace hw := hw.1 hc
      refine lv_iconst (v := (0 : Int32)) B.1.1 B.1.2.1 dX5_isIn_14 (by decide) ?_
      exact q_zret B hr hlk h (by decide) hw dX5_isIn_15 (Nat.le_of_ble_eq_true rfl) (Nat.le_of_ble_eq_true rfl)
    · replace hw := hw.2 hc
      refine lv_iconst (v := (1 : Int32)) B.1.1 B.1.2.1 dX5_isIn_10 (by decide) ?_
      refine lv_goto (tgt := 15) B.1.1 B.1.2.1 dX5_isIn_11 (by decide) ?_
      exact q_zret B hr hlk h (by decide) hw dX5_isIn_15 (Nat.le_of_ble_eq_true rfl) (Nat.le_of_ble_eq_true rfl)
set_option maxHeartbeats 4000000 in
set_option maxRecDepth 100000 in
theorem met_X5_isBanner (l : Launch) (a0 : Nat) (x1 : Int32) : MI l yX5_isBanner cX5_isBanner 2 (some .boolean) 1 22 0 0 [.ref a0, .int x1] (wX5_isBanner a0 x1) := by
  refine MI.of (by decide) (Nat.le_of_ble_eq_true rfl) ?_
  intro p e s m below meth c D cs lo S Q ls B hr hlk hin
  intro h hl hw
  replace hl : lv_has ls 2 [(0, .ref a0), (1, .int x1)] := hl
  refine lv_iload_n B.1.1 B.1.2.1 dX5_isBanner_0 rfl (lv_at hl 1 rfl) ?_
  refine lv_iconst (v := (0 : Int32)) B.1.1 B.1.2.1 dX5_isBanner_1 (by decide) ?_
  refine lv_aload_n B.1.1 B.1.2.1 dX5_isBanner_2 rfl (lv_at hl 0 rfl) ?_
  obtain ⟨hok, hw⟩ := hw
  refine q_getI B h (ci := 5) (j := 1) (code := 161) rfl inT_5 (by decide) kF_RX5_66 rfl rfl rfl (by decide) dX5_isBanner_3 hok.1 hok.2 ?_
  refine lv_iconst (v := (1 : Int32)) B.1.1 B.1.2.1 dX5_isBanner_6 (by decide) ?_
  refine lv_isub B.1.1 B.1.2.1 dX5_isBanner_7 ?_
  refine q_callIS B h (met_X5_isIn l x1 (0 : Int32) ((gI S 161 a0) - (1 : Int32))) (CB B 3 kC_X5_isIn kI_RX5 kM_RX5_69 hd_X5_isIn ⟨Nat.le_of_ble_eq_true rfl, Nat.le_of_ble_eq_true rfl⟩) kS_X5_isIn (rest := []) rfl rfl hl.1 (Nat.le_of_ble_eq_true rfl) dX5_isBanner_8 ⟨Nat.le_of_ble_eq_true rfl, Nat.le_of_ble_eq_true rfl⟩ hw (fun r1 S1 H locs hw9 h9 => ?_)
  replace hw := hw9
  clear hw9
  replace h := h9
  clear h9
  exact q_zret B hr hlk h hw.1 hw.2 dX5_isBanner_11 (Nat.le_of_ble_eq_true rfl) (Nat.le_of_ble_eq_true rfl)
set_option maxHeartbeats 4000000 in
set_option maxRecDepth 100000 in
theorem met_X5_isRow (l : Launch) (x0 : Int32) : MI l yX5_isRow cX5_isRow 1 (some .boolean) 1 22 0 0 [.int x0] (wX5_isRow x0) := by
  refine MI.of (by decide) (Nat.le_of_ble_eq_true rfl) ?_
  intro p e s m below meth c D cs lo S Q ls B hr hlk hin
  intro h hl hw
  replace hl : lv_has ls 1 [(0, .int x0)] := hl
  refine lv_iload_n B.1.1 B.1.2.1 dX5_isRow_0 rfl (lv_at hl 0 rfl) ?_
  refine lv_iconst (v := (0 : Int32)) B.1.1 B.1.2.1 dX5_isRow_1 (by decide) ?_
  refine lv_bipush (v := (7 : Int32)) B.1.1 B.1.2.1 dX5_isRow_2 (by decide) ?_
  refine q_callIS B h (met_X5_isIn l x0 (0 : Int32) (7 : Int32)) (CB B 3 kC_X5_isIn kI_RX5 kM_RX5_69 hd_X5_isIn ⟨Nat.le_of_ble_eq_true rfl, Nat.le_of_ble_eq_true rfl⟩) kS_X5_isIn (rest := []) rfl rfl hl.1 (Nat.le_of_ble_eq_true rfl) dX5_isRow_4 ⟨Nat.le_of_ble_eq_true rfl, Nat.le_of_ble_eq_true rfl⟩ hw (fun r1 S1 H locs hw9 h9 => ?_)
  replace hw := hw9
  clear hw9
  replace h := h9
  clear h9
  exact q_zret B hr hlk h hw.1 hw.2 dX5_isRow_7 (Nat.le_of_ble_eq_true rfl) (Nat.le_of_ble_eq_true rfl)
set_option maxHeartbeats 4000000 in
set_option maxRecDepth 100000 in
theorem met_X5_isPrinter (l : Launch) (x0 : Int32) : MI l yX5_isPrinter cX5_isPrinter 1 (some .boolean) 1 22 0 0 [.int x0] (wX5_isPrinter x0) := by
  refine MI.of (by decide) (Nat.le_of_ble_eq_true rfl) ?_
  intro p e s m below meth c D cs lo S Q ls B hr hlk hin
  intro h hl hw
  replace hl : lv_has ls 1 [(0, .int x0)] := hl
  refine lv_iload_n B.1.1 B.1.2.1 dX5_isPrinter_0 rfl (lv_at hl 0 rfl) ?_
  refine lv_iconst (v := (0 : Int32)) B.1.1 B.1.2.1 dX5_isPrinter_1 (by decide) ?_
  refine lv_iconst (v := (2 : Int32)) B.1.1 B.1.2.1 dX5_isPrinter_2 (by decide) ?_
  refine q_callIS B h (met_X5_isIn l x0 (0 : Int32) (2 : Int32)) (CB B 3 kC_X5_isIn kI_RX5 kM_RX5_69 hd_X5_isIn ⟨Nat.le_of_ble_eq_true rfl, Nat.le_of_ble_eq_true rfl⟩) kS_X5_isIn (rest := []) rfl rfl hl.1 (Nat.le_of_ble_eq_true rfl) dX5_isPrinter_3 ⟨Nat.le_of_ble_eq_true rfl, Nat.le_of_ble_eq_true rfl⟩ hw (fun r1 S1 H locs hw9 h9 => ?_)
  replace hw := hw9
  clear hw9
  replace h := h9
  clear h9
  exact q_zret B hr hlk h hw.1 hw.2 dX5_isPrinter_6 (Nat.le_of_ble_eq_true rfl) (Nat.le_of_ble_eq_true rfl)
set_option maxHeartbeats 4000000 in
set_option maxRecDepth 100000 in
theorem met_X5_first (l : Launch) (a0 : Nat) (x1 : Int32) (x2 : Int32) : MI l yX5_first cX5_first 3 (some .int) 0 0 0 0 [.ref a0, .int x1, .int x2] (wX5_first a0 x1 x2) := by
  refine MI.of (by decide) (Nat.le_of_ble_eq_true rfl) ?_
  intro p e s m below meth c D cs lo S Q ls B hr hlk hin
  intro h hl hw
  replace hl : lv_has ls 3 [(0, .ref a0), (1, .int x1), (2, .int x2)] := hl
  refine lv_iload_n B.1.1 B.1.2.1 dX5_first_0 rfl (lv_at hl 2 rfl) ?_
  refine lv_aload_n B.1.1 B.1.2.1 dX5_first_1 rfl (lv_at hl 0 rfl) ?_
  obtain ⟨hok, hw⟩ := hw
  refine q_getR B h (ci := 5) (j := 3) (code := 163) rfl inT_5 (by decide) kF_RX5_13 rfl rfl rfl (by decide) dX5_first_2 hok.1 hok.2 ?_
  obtain ⟨o1, hoo1⟩ : ∃ z, z = gR S 163 a0 := ⟨_, rfl⟩
  rw [← hoo1]
  replace hw := hw o1 hoo1
  refine lv_iload_n B.1.1 B.1.2.1 dX5_first_5 rfl (lv_at hl 1 rfl) ?_
  obtain ⟨q1, hn, hw⟩ := hw
  subst hn
  replace hl : lv_has ls 3 [(0, .ref a0), (1, .int x1), (2, .int x2)] := hl
  obtain ⟨hok, hin9, hw⟩ := hw
  refine q_iald B h dX5_first_6 hok.1 hok.2 hin9 ?_
  refine lv_aload_n B.1.1 B.1.2.1 dX5_first_7 rfl (lv_at hl 0 rfl) ?_
  obtain ⟨hok, hw⟩ := hw
  refine q_getR B h (ci := 5) (j := 4) (code := 164) rfl inT_5 (by decide) kF_RX5_16 rfl rfl rfl (by decide) dX5_first_8 hok.1 hok.2 ?_
  obtain ⟨o2, hoo2⟩ : ∃ z, z = gR S 164 a0 := ⟨_, rfl⟩
  rw [← hoo2]
  replace hw := hw o2 hoo2
  refine lv_iload_n B.1.1 B.1.2.1 dX5_first_11 rfl (lv_at hl 1 rfl) ?_
  obtain ⟨q2, hn, hw⟩ := hw
  subst hn
  replace hl : lv_has ls 3 [(0, .ref a0), (1, .int x1), (2, .int x2)] := hl
  obtain ⟨hok, hin9, hw⟩ := hw
  refine q_iald B h dX5_first_12 hok.1 hok.2 hin9 ?_
  refine lv_isub B.1.1 B.1.2.1 dX5_first_13 ?_
  refine lv_imul B.1.1 B.1.2.1 dX5_first_14 ?_
  exact q_iret B hr hlk h hw dX5_first_15 (Nat.le_of_ble_eq_true rfl) (Nat.le_of_ble_eq_true rfl)
set_option maxHeartbeats 4000000 in
set_option maxRecDepth 100000 in
theorem met_X5_end (l : Launch) (a0 : Nat) (x1 : Int32) (x2 : Int32) : MI l yX5_end cX5_end 4 (some .int) 1 22 0 0 [.ref a0, .int x1, .int x2] (wX5_end a0 x1 x2) := by
  refine MI.of (by decide) (Nat.le_of_ble_eq_true rfl) ?_
  intro p e s m below meth c D cs lo S Q ls B hr hlk hin
  intro h hl hw
  replace hl : lv_has ls 4 [(0, .ref a0), (1, .int x1), (2, .int x2)] := hl
  refine lv_aload_n B.1.1 B.1.2.1 dX5_end_0 rfl (lv_at hl 0 rfl) ?_
  refine lv_iload_n B.1.1 B.1.2.1 dX5_end_1 rfl (lv_at hl 1 rfl) ?_
  refine lv_iload_n B.1.1 B.1.2.1 dX5_end_2 rfl (lv_at hl 2 rfl) ?_
  obtain ⟨hok, hw⟩ := hw
  refine q_callIV B h (met_X5_first l a0 x1 x2) (CB B 2 kC_X5_first kI_RX5 kM_RX5_84 hd_X5_first ⟨Nat.le_of_ble_eq_true rfl, Nat.le_of_ble_eq_true rfl⟩) kO_X5_first kV_X5_first (ci := 5) rfl (by decide) hok.1 hok.2 (rest := []) rfl rfl hl.1 (Nat.le_of_ble_eq_true rfl) dX5_end_3 ⟨Nat.le_of_ble_eq_true rfl, Nat.le_of_ble_eq_true rfl⟩ hw (fun r1 S1 H locs hw9 h9 => ?_)
  replace hw := hw9
  clear hw9
  replace h := h9
  clear h9
  refine lv_aload_n B.1.1 B.1.2.1 dX5_end_6 rfl (lv_at hl 0 rfl) ?_
  obtain ⟨hok, hw⟩ := hw
  refine q_getR B h (ci := 5) (j := 3) (code := 163) rfl inT_5 (by decide) kF_RX5_13 rfl rfl rfl (by decide) dX5_end_7 hok.1 hok.2 ?_
  obtain ⟨o1, hoo1⟩ : ∃ z, z = gR S1 163 a0 := ⟨_, rfl⟩
  rw [← hoo1]
  replace hw := hw o1 hoo1
  refine lv_iload_n B.1.1 B.1.2.1 dX5_end_10 rfl (lv_at hl 1 rfl) ?_
  obtain ⟨q1, hn, hw⟩ := hw
  subst hn
  replace hl : lv_has ls 4 [(0, .ref a0), (1, .int x1), (2, .int x2)] := hl
  obtain ⟨hok, hin9, hw⟩ := hw
  refine q_iald B h dX5_end_11 hok.1 hok.2 hin9 ?_
  refine lv_iadd B.1.1 B.1.2.1 dX5_end_12 ?_
  refine lv_istore_n (i := 3) (lv' := [(3, .int (r1 + (gA S1 q1 x1.toNatClampNeg))), (0, .ref a0), (1, .int x1), (2, .int x2)]) B.1.1 B.1.2.1 dX5_end_13 rfl hl (by decide) rfl (fun ls hl9 => ?_)
  replace hl := hl9
  clear hl9
  refine lv_iload_n B.1.1 B.1.2.1 dX5_end_14 rfl (lv_at hl 0 rfl) ?_
  refine lv_aload_n B.1.1 B.1.2.1 dX5_end_15 rfl (lv_at hl 1 rfl) ?_
  obtain ⟨hok, hw⟩ := hw
  refine q_getR B h (ci := 5) (j := 2) (code := 162) rfl inT_5 (by decide) kF_RX5_7 rfl rfl rfl (by decide) dX5_end_16 hok.1 hok.2 ?_
  obtain ⟨o2, hoo2⟩ : ∃ z, z = gR S1 162 a0 := ⟨_, rfl⟩
  rw [← hoo2]
  replace hw := hw o2 hoo2
  refine lv_iload_n B.1.1 B.1.2.1 dX5_end_19 rfl (lv_at hl 2 rfl) ?_
  obtain ⟨q2, hn, hw⟩ := hw
  subst hn
  replace hl : lv_has ls 4 [(3, .int (r1 + (gA S1 q1 x1.toNatClampNeg))), (0, .ref a0), (1, .int x1), (2, .int x2)] := hl
  obtain ⟨hok, hin9, hw⟩ := hw
  refine q_iald B h dX5_end_20 hok.1 hok.2 hin9 ?_
  refine lv_icmp_ge (tgt := 28) B.1.1 B.1.2.1 dX5_end_21 (by decide) (fun hc => ?_) (fun hc => ?_)
  · replace hw := hw.1 hc
    refine lv_aload_n B.1.1 B.1.2.1 dX5_end_28 rfl (lv_at hl 1 rfl) ?_
    obtain ⟨hok, hw⟩ := hw
    refine q_getR B h (ci := 5) (j := 2) (code := 162) rfl inT_5 (by decide) kF_RX5_7 rfl rfl rfl (by decide) dX5_end_29 hok.1 hok.2 ?_
    obtain ⟨o3, hoo3⟩ : ∃ z, z = gR S1 162 a0 := ⟨_, rfl⟩
    rw [← hoo3]
    replace hw := hw o3 hoo3
    refine lv_iload_n B.1.1 B.1.2.1 dX5_end_32 rfl (lv_at hl 2 rfl) ?_
    obtain ⟨q3, hn, hw⟩ := hw
    subst hn
    replace hl : lv_has ls 4 [(3, .int (r1 + (gA S1 q1 x1.toNatClampNeg))), (0, .ref a0), (1, .int x1), (2, .int x2)] := hl
    obtain ⟨hok, hin9, hw⟩ := hw
    refine q_iald B h dX5_end_33 hok.1 hok.2 hin9 ?_
    exact q_iret B hr hlk h hw dX5_end_34 (Nat.le_of_ble_eq_true rfl) (Nat.le_of_ble_eq_true rfl)
  · replace hw := hw.2 hc
    refine lv_iload_n B.1.1 B.1.2.1 dX5_end_24 rfl (lv_at hl 0 rfl) ?_
    refine lv_goto (tgt := 34) B.1.1 B.1.2.1 dX5_end_25 (by decide) ?_
    exact q_iret B hr hlk h hw dX5_end_34 (Nat.le_of_ble_eq_true rfl) (Nat.le_of_ble_eq_true rfl)
set_option maxHeartbeats 4000000 in
set_option maxRecDepth 100000 in
theorem met_X5_stripsOf (l : Launch) (a0 : Nat) (x1 : Int32) : MI l yX5_stripsOf cX5_stripsOf 3 (some .int) 2 45 0 0 [.ref a0, .int x1] (wX5_stripsOf a0 x1) := by
  refine MI.of (by decide) (Nat.le_of_ble_eq_true rfl) ?_
  intro p e s m below meth c D cs lo S Q ls B hr hlk hin
  have L2 : ∀ (c0 : Nat) (c1 : Int32) (K : Int32 → HS → Prop) (n : Nat) (m2 : Int32) (S : HS) (H : Heap) (locs : List Loc) (ls : Array Slot), Hx D cs lo s S H locs → lv_has ls 3 [(0, .ref c0), (1, .int c1), (2, .int m2)] → wX5_stripsOf_L2 c0 c1 n m2 S K → (∀ (m2 : Int32) (S : HS) (H : Heap) (locs : List Loc) (ls : Array Slot), Hx D cs lo s S H locs → lv_has ls 3 [(0, .ref c0), (1, .int c1), (2, .int m2)] → K m2 S → W p l e ({ frames := 2, cells := 0, slots := 0, locals := 45 } : Room) s m [.ref a0, .int x1].toArray below meth c H locs 0 0 (MQ below (va_Qi Q (fun S' t => hp D cs lo S' t.heap) (fun q => lo ≤ q)) [.ref a0, .int x1].toArray s 0 0 (fun q => lo ≤ q)) (F0 m 25 ls [])) → W p l e ({ frames := 2, cells := 0, slots := 0, locals := 45 } : Room) s m [.ref a0, .int x1].toArray below meth c H locs 0 0 (MQ below (va_Qi Q (fun S' t => hp D cs lo S' t.heap) (fun q => lo ≤ q)) [.ref a0, .int x1].toArray s 0 0 (fun q => lo ≤ q)) (F0 m 2 ls []) := by
    intro c0 c1 K n
    induction n with
    | zero => intro m2 S H locs ls h hl hw hk; exact False.elim hw
    | succ n ih =>
      intro m2 S H locs ls h hl hw hk
      refine lv_aload_n B.1.1 B.1.2.1 dX5_stripsOf_2 rfl (lv_at hl 0 rfl) ?_
      refine lv_iload_n B.1.1 B.1.2.1 dX5_stripsOf_3 rfl (lv_at hl 1 rfl) ?_
      refine lv_iload_n B.1.1 B.1.2.1 dX5_stripsOf_4 rfl (lv_at hl 2 rfl) ?_
      refine lv_iconst (v := (1 : Int32)) B.1.1 B.1.2.1 dX5_stripsOf_5 (by decide) ?_
      refine lv_isub B.1.1 B.1.2.1 dX5_stripsOf_6 ?_
      obtain ⟨hok, hw⟩ := hw
      refine q_callIV B h (met_X5_end l c0 c1 (m2 - (1 : Int32))) (CB B 2 kC_X5_end kI_RX5 kM_RX5_88 hd_X5_end ⟨Nat.le_of_ble_eq_true rfl, Nat.le_of_ble_eq_true rfl⟩) kO_X5_end kV_X5_end (ci := 5) rfl (by decide) hok.1 hok.2 (rest := []) rfl rfl hl.1 (Nat.le_of_ble_eq_true rfl) dX5_stripsOf_7 ⟨Nat.le_of_ble_eq_true rfl, Nat.le_of_ble_eq_true rfl⟩ hw (fun r1 S1 H locs hw9 h9 => ?_)
      replace hw := hw9
      clear hw9
      replace h := h9
      clear h9
      refine lv_aload_n B.1.1 B.1.2.1 dX5_stripsOf_10 rfl (lv_at hl 0 rfl) ?_
      obtain ⟨hok, hw⟩ := hw
      refine q_getR B h (ci := 5) (j := 2) (code := 162) rfl inT_5 (by decide) kF_RX5_7 rfl rfl rfl (by decide) dX5_stripsOf_11 hok.1 hok.2 ?_
      obtain ⟨o1, hoo1⟩ : ∃ z, z = gR S1 162 c0 := ⟨_, rfl⟩
      rw [← hoo1]
      replace hw := hw o1 hoo1
      refine lv_iload_n B.1.1 B.1.2.1 dX5_stripsOf_14 rfl (lv_at hl 1 rfl) ?_
      obtain ⟨q1, hn, hw⟩ := hw
      subst hn
      replace hl : lv_has ls 3 [(0, .ref c0), (1, .int c1), (2, .int m2)] := hl
      obtain ⟨hok, hin9, hw⟩ := hw
      refine q_iald B h dX5_stripsOf_15 hok.1 hok.2 hin9 ?_
      refine lv_icmp_ge (tgt := 25) B.1.1 B.1.2.1 dX5_stripsOf_16 (by decide) (fun hc => ?_) (fun hc => ?_)
      · replace hw := hw.1 hc
        exact hk m2 _ _ _ ls h (lv_sub hl [0, 1, 2] rfl) hw
      · replace hw := hw.2 hc
        refine lv_iinc (i := 2) (v := (m2 + (1 : Int32))) (lv' := [(2, .int (m2 + (1 : Int32))), (0, .ref c0), (1, .int c1)]) B.1.1 B.1.2.1 dX5_stripsOf_19 hl (k := 2) rfl rfl (by decide) rfl (fun ls hl9 => ?_)
        replace hl := hl9
        clear hl9
        refine lv_goto (tgt := 2) B.1.1 B.1.2.1 dX5_stripsOf_22 (by decide) ?_
        exact ih (m2 + (1 : Int32)) _ _ _ ls h (lv_sub hl [1, 2, 0] rfl) hw hk
  intro h hl hw
  replace hl : lv_has ls 3 [(0, .ref a0), (1, .int x1)] := hl
  refine lv_iconst (v := (1 : Int32)) B.1.1 B.1.2.1 dX5_stripsOf_0 (by decide) ?_
  refine lv_istore_n (i := 2) (lv' := [(2, .int (1 : Int32)), (0, .ref a0), (1, .int x1)]) B.1.1 B.1.2.1 dX5_stripsOf_1 rfl hl (by decide) rfl (fun ls hl9 => ?_)
  replace hl := hl9
  clear hl9
  obtain ⟨n1, hw⟩ := hw
  refine L2 a0 x1 _ n1 (1 : Int32) _ _ _ ls h (lv_sub hl [1, 2, 0] rfl) hw (fun u1 S2 H locs ls h9 hl9 hw9 => ?_)
  replace hw := hw9
  clear hw9
  replace h := h9
  clear h9
  replace hl := hl9
  clear hl9
  refine lv_iload_n B.1.1 B.1.2.1 dX5_stripsOf_25 rfl (lv_at hl 2 rfl) ?_
  exact q_iret B hr hlk h hw dX5_stripsOf_26 (Nat.le_of_ble_eq_true rfl) (Nat.le_of_ble_eq_true rfl)
set_option maxHeartbeats 4000000 in
set_option maxRecDepth 100000 in
theorem met_X5_isStrip (l : Launch) (a0 : Nat) (x1 : Int32) (x2 : Int32) : MI l yX5_isStrip cX5_isStrip 3 (some .boolean) 3 67 0 0 [.ref a0, .int x1, .int x2] (wX5_isStrip a0 x1 x2) := by
  refine MI.of (by decide) (Nat.le_of_ble_eq_true rfl) ?_
  intro p e s m below meth c D cs lo S Q ls B hr hlk hin
  intro h hl hw
  replace hl : lv_has ls 3 [(0, .ref a0), (1, .int x1), (2, .int x2)] := hl
  refine lv_aload_n B.1.1 B.1.2.1 dX5_isStrip_0 rfl (lv_at hl 0 rfl) ?_
  refine lv_iload_n B.1.1 B.1.2.1 dX5_isStrip_1 rfl (lv_at hl 1 rfl) ?_
  obtain ⟨hok, hw⟩ := hw
  refine q_callIV B h (met_X5_isBanner l a0 x1) (CB B 1 kC_X5_isBanner kI_RX5 kM_RX5_73 hd_X5_isBanner ⟨Nat.le_of_ble_eq_true rfl, Nat.le_of_ble_eq_true rfl⟩) kO_X5_isBanner kV_X5_isBanner (ci := 5) rfl (by decide) hok.1 hok.2 (rest := []) rfl rfl hl.1 (Nat.le_of_ble_eq_true rfl) dX5_isStrip_2 ⟨Nat.le_of_ble_eq_true rfl, Nat.le_of_ble_eq_true rfl⟩ hw (fun r1 S1 H locs hw9 h9 => ?_)
  replace hw := hw9
  clear hw9
  replace h := h9
  clear h9
  refine lv_if_eq (tgt := 27) B.1.1 B.1.2.1 dX5_isStrip_5 (by decide) (fun hc => ?_) (fun hc => ?_)
  · replace hw := hw.1 hc
    refine lv_iconst (v := (0 : Int32)) B.1.1 B.1.2.1 dX5_isStrip_27 (by decide) ?_
    exact q_zret B hr hlk h (by decide) hw dX5_isStrip_28 (Nat.le_of_ble_eq_true rfl) (Nat.le_of_ble_eq_true rfl)
  · replace hw := hw.2 hc
    refine lv_iload_n B.1.1 B.1.2.1 dX5_isStrip_8 rfl (lv_at hl 2 rfl) ?_
    refine lv_iconst (v := (0 : Int32)) B.1.1 B.1.2.1 dX5_isStrip_9 (by decide) ?_
    refine lv_aload_n B.1.1 B.1.2.1 dX5_isStrip_10 rfl (lv_at hl 0 rfl) ?_
    refine lv_iload_n B.1.1 B.1.2.1 dX5_isStrip_11 rfl (lv_at hl 1 rfl) ?_
    obtain ⟨hok, hw⟩ := hw
    refine q_callIV B h (met_X5_stripsOf l a0 x1) (CB B 1 kC_X5_stripsOf kI_RX5 kM_RX5_77 hd_X5_stripsOf ⟨Nat.le_of_ble_eq_true rfl, Nat.le_of_ble_eq_true rfl⟩) kO_X5_stripsOf kV_X5_stripsOf (ci := 5) rfl (by decide) hok.1 hok.2 (rest := [.int (0 : Int32), .int x2]) rfl rfl hl.1 (Nat.le_of_ble_eq_true rfl) dX5_isStrip_12 ⟨Nat.le_of_ble_eq_true rfl, Nat.le_of_ble_eq_true rfl⟩ hw (fun r2 S2 H locs hw9 h9 => ?_)
    replace hw := hw9
    clear hw9
    replace h := h9
    clear h9
    refine lv_iconst (v := (1 : Int32)) B.1.1 B.1.2.1 dX5_isStrip_15 (by decide) ?_
    refine lv_isub B.1.1 B.1.2.1 dX5_isStrip_16 ?_
    refine q_callIS B h (met_X5_isIn l x2 (0 : Int32) (r2 - (1 : Int32))) (CB B 3 kC_X5_isIn kI_RX5 kM_RX5_69 hd_X5_isIn ⟨Nat.le_of_ble_eq_true rfl, Nat.le_of_ble_eq_true rfl⟩) kS_X5_isIn (rest := []) rfl rfl hl.1 (Nat.le_of_ble_eq_true rfl) dX5_isStrip_17 ⟨Nat.le_of_ble_eq_true rfl, Nat.le_of_ble_eq_true rfl⟩ hw (fun r3 S3 H locs hw9 h9 => ?_)
    replace hw := hw9
    clear hw9
    replace h := h9
    clear h9
    refine lv_if_eq (tgt := 27) B.1.1 B.1.2.1 dX5_isStrip_20 (by decide) (fun hc => ?_) (fun hc => ?_)
    · replace hw := hw.1 hc
      refine lv_iconst (v := (0 : Int32)) B.1.1 B.1.2.1 dX5_isStrip_27 (by decide) ?_
      exact q_zret B hr hlk h (by decide) hw dX5_isStrip_28 (Nat.le_of_ble_eq_true rfl) (Nat.le_of_ble_eq_true rfl)
    · replace hw := hw.2 hc
      refine lv_iconst (v := (1 : Int32)) B.1.1 B.1.2.1 dX5_isStrip_23 (by decide) ?_
      refine lv_goto (tgt := 28) B.1.1 B.1.2.1 dX5_isStrip_24 (by decide) ?_
      exact q_zret B hr hlk h (by decide) hw dX5_isStrip_28 (Nat.le_of_ble_eq_true rfl) (Nat.le_of_ble_eq_true rfl)
set_option maxHeartbeats 4000000 in
set_option maxRecDepth 100000 in
theorem met_X5_isDot (l : Launch) (a0 : Nat) (x1 : Int32) (x2 : Int32) (x3 : Int32) : MI l yX5_isDot cX5_isDot 4 (some .boolean) 2 43 0 0 [.ref a0, .int x1, .int x2, .int x3] (wX5_isDot a0 x1 x2 x3) := by
  refine MI.of (by decide) (Nat.le_of_ble_eq_true rfl) ?_
  intro p e s m below meth c D cs lo S Q ls B hr hlk hin
  intro h hl hw
  replace hl : lv_has ls 4 [(0, .ref a0), (1, .int x1), (2, .int x2), (3, .int x3)] := hl
  refine lv_aload_n B.1.1 B.1.2.1 dX5_isDot_0 rfl (lv_at hl 0 rfl) ?_
  refine lv_iload_n B.1.1 B.1.2.1 dX5_isDot_1 rfl (lv_at hl 1 rfl) ?_
  obtain ⟨hok, hw⟩ := hw
  refine q_callIV B h (met_X5_isBanner l a0 x1) (CB B 1 kC_X5_isBanner kI_RX5 kM_RX5_73 hd_X5_isBanner ⟨Nat.le_of_ble_eq_true rfl, Nat.le_of_ble_eq_true rfl⟩) kO_X5_isBanner kV_X5_isBanner (ci := 5) rfl (by decide) hok.1 hok.2 (rest := []) rfl rfl hl.1 (Nat.le_of_ble_eq_true rfl) dX5_isDot_2 ⟨Nat.le_of_ble_eq_true rfl, Nat.le_of_ble_eq_true rfl⟩ hw (fun r1 S1 H locs hw9 h9 => ?_)
  replace hw := hw9
  clear hw9
  replace h := h9
  clear h9
  refine lv_if_eq (tgt := 35) B.1.1 B.1.2.1 dX5_isDot_5 (by decide) (fun hc => ?_) (fun hc => ?_)
  · replace hw := hw.1 hc
    refine lv_iconst (v := (0 : Int32)) B.1.1 B.1.2.1 dX5_isDot_35 (by decide) ?_
    exact q_zret B hr hlk h (by decide) hw dX5_isDot_36 (Nat.le_of_ble_eq_true rfl) (Nat.le_of_ble_eq_true rfl)
  · replace hw := hw.2 hc
    refine lv_iload_n B.1.1 B.1.2.1 dX5_isDot_8 rfl (lv_at hl 2 rfl) ?_
    refine q_callIS B h (met_X5_isRow l x2) (CB B 1 kC_X5_isRow kI_RX5 kM_RX5_81 hd_X5_isRow ⟨Nat.le_of_ble_eq_true rfl, Nat.le_of_ble_eq_true rfl⟩) kS_X5_isRow (rest := []) rfl rfl hl.1 (Nat.le_of_ble_eq_true rfl) dX5_isDot_9 ⟨Nat.le_of_ble_eq_true rfl, Nat.le_of_ble_eq_true rfl⟩ hw (fun r2 S2 H locs hw9 h9 => ?_)
    replace hw := hw9
    clear hw9
    replace h := h9
    clear h9
    refine lv_if_eq (tgt := 35) B.1.1 B.1.2.1 dX5_isDot_12 (by decide) (fun hc => ?_) (fun hc => ?_)
    · replace hw := hw.1 hc
      refine lv_iconst (v := (0 : Int32)) B.1.1 B.1.2.1 dX5_isDot_35 (by decide) ?_
      exact q_zret B hr hlk h (by decide) hw dX5_isDot_36 (Nat.le_of_ble_eq_true rfl) (Nat.le_of_ble_eq_true rfl)
    · replace hw := hw.2 hc
      refine lv_iload_n B.1.1 B.1.2.1 dX5_isDot_15 rfl (lv_at hl 3 rfl) ?_
      refine lv_iconst (v := (0 : Int32)) B.1.1 B.1.2.1 dX5_isDot_16 (by decide) ?_
      refine lv_aload_n B.1.1 B.1.2.1 dX5_isDot_17 rfl (lv_at hl 0 rfl) ?_
      obtain ⟨hok, hw⟩ := hw
      refine q_getR B h (ci := 5) (j := 2) (code := 162) rfl inT_5 (by decide) kF_RX5_7 rfl rfl rfl (by decide) dX5_isDot_18 hok.1 hok.2 ?_
      obtain ⟨o1, hoo1⟩ : ∃ z, z = gR S2 162 a0 := ⟨_, rfl⟩
      rw [← hoo1]
      replace hw := hw o1 hoo1
      refine lv_iload_n B.1.1 B.1.2.1 dX5_isDot_21 rfl (lv_at hl 1 rfl) ?_
      obtain ⟨q1, hn, hw⟩ := hw
      subst hn
      replace hl : lv_has ls 4 [(0, .ref a0), (1, .int x1), (2, .int x2), (3, .int x3)] := hl
      obtain ⟨hok, hin9, hw⟩ := hw
      refine q_iald B h dX5_isDot_22 hok.1 hok.2 hin9 ?_
      refine lv_iconst (v := (1 : Int32)) B.1.1 B.1.2.1 dX5_isDot_23 (by decide) ?_
      refine lv_isub B.1.1 B.1.2.1 dX5_isDot_24 ?_
      refine q_callIS B h (met_X5_isIn l x3 (0 : Int32) ((gA S2 q1 x1.toNatClampNeg) - (1 : Int32))) (CB B 3 kC_X5_isIn kI_RX5 kM_RX5_69 hd_X5_isIn ⟨Nat.le_of_ble_eq_true rfl, Nat.le_of_ble_eq_true rfl⟩) kS_X5_isIn (rest := []) rfl rfl hl.1 (Nat.le_of_ble_eq_true rfl) dX5_isDot_25 ⟨Nat.le_of_ble_eq_true rfl, Nat.le_of_ble_eq_true rfl⟩ hw (fun r3 S3 H locs hw9 h9 => ?_)
      replace hw := hw9
      clear hw9
      replace h := h9
      clear h9
      refine lv_if_eq (tgt := 35) B.1.1 B.1.2.1 dX5_isDot_28 (by decide) (fun hc => ?_) (fun hc => ?_)
      · replace hw := hw.1 hc
        refine lv_iconst (v := (0 : Int32)) B.1.1 B.1.2.1 dX5_isDot_35 (by decide) ?_
        exact q_zret B hr hlk h (by decide) hw dX5_isDot_36 (Nat.le_of_ble_eq_true rfl) (Nat.le_of_ble_eq_true rfl)
      · replace hw := hw.2 hc
        refine lv_iconst (v := (1 : Int32)) B.1.1 B.1.2.1 dX5_isDot_31 (by decide) ?_
        refine lv_goto (tgt := 36) B.1.1 B.1.2.1 dX5_isDot_32 (by decide) ?_
        exact q_zret B hr hlk h (by decide) hw dX5_isDot_36 (Nat.le_of_ble_eq_true rfl) (Nat.le_of_ble_eq_true rfl)
set_option maxHeartbeats 4000000 in
set_option maxRecDepth 100000 in
theorem met_X5_dot (l : Launch) (x0 : Int32) (x1 : Int32) (x2 : Int32) : MI l yX5_dot cX5_dot 3 (some .int) 0 0 0 0 [.int x0, .int x1, .int x2] (wX5_dot x0 x1 x2) := by
  refine MI.of (by decide) (Nat.le_of_ble_eq_true rfl) ?_
  intro p e s m below meth c D cs lo S Q ls B hr hlk hin
  intro h hl hw
  replace hl : lv_has ls 3 [(0, .int x0), (1, .int x1), (2, .int x2)] := hl
  refine lv_bipush (v := (32 : Int32)) B.1.1 B.1.2.1 dX5_dot_0 (by decide) ?_
  refine lv_bipush (v := (8 : Int32)) B.1.1 B.1.2.1 dX5_dot_2 (by decide) ?_
  refine lv_iload_n B.1.1 B.1.2.1 dX5_dot_4 rfl (lv_at hl 0 rfl) ?_
  refine lv_imul B.1.1 B.1.2.1 dX5_dot_5 ?_
  refine lv_iload_n B.1.1 B.1.2.1 dX5_dot_6 rfl (lv_at hl 1 rfl) ?_
  refine lv_iadd B.1.1 B.1.2.1 dX5_dot_7 ?_
  refine lv_imul B.1.1 B.1.2.1 dX5_dot_8 ?_
  refine lv_iload_n B.1.1 B.1.2.1 dX5_dot_9 rfl (lv_at hl 2 rfl) ?_
  refine lv_iadd B.1.1 B.1.2.1 dX5_dot_10 ?_
  exact q_iret B hr hlk h hw dX5_dot_11 (Nat.le_of_ble_eq_true rfl) (Nat.le_of_ble_eq_true rfl)
set_option maxHeartbeats 4000000 in
set_option maxRecDepth 100000 in
theorem met_X5_has (l : Launch) (a0 : Nat) (x1 : Int32) (x2 : Int32) (x3 : Int32) : MI l yX5_has cX5_has 4 (some .boolean) 3 67 0 0 [.ref a0, .int x1, .int x2, .int x3] (wX5_has a0 x1 x2 x3) := by
  refine MI.of (by decide) (Nat.le_of_ble_eq_true rfl) ?_
  intro p e s m below meth c D cs lo S Q ls B hr hlk hin
  intro h hl hw
  replace hl : lv_has ls 4 [(0, .ref a0), (1, .int x1), (2, .int x2), (3, .int x3)] := hl
  refine lv_iload_n B.1.1 B.1.2.1 dX5_has_0 rfl (lv_at hl 2 rfl) ?_
  refine lv_iconst (v := (0 : Int32)) B.1.1 B.1.2.1 dX5_has_1 (by decide) ?_
  refine lv_aload_n B.1.1 B.1.2.1 dX5_has_2 rfl (lv_at hl 0 rfl) ?_
  refine lv_iload_n B.1.1 B.1.2.1 dX5_has_3 rfl (lv_at hl 1 rfl) ?_
  obtain ⟨hok, hw⟩ := hw
  refine q_callIV B h (met_X5_stripsOf l a0 x1) (CB B 1 kC_X5_stripsOf kI_RX5 kM_RX5_77 hd_X5_stripsOf ⟨Nat.le_of_ble_eq_true rfl, Nat.le_of_ble_eq_true rfl⟩) kO_X5_stripsOf kV_X5_stripsOf (ci := 5) rfl (by decide) hok.1 hok.2 (rest := [.int (0 : Int32), .int x2]) rfl rfl hl.1 (Nat.le_of_ble_eq_true rfl) dX5_has_4 ⟨Nat.le_of_ble_eq_true rfl, Nat.le_of_ble_eq_true rfl⟩ hw (fun r1 S1 H locs hw9 h9 => ?_)
  replace hw := hw9
  clear hw9
  replace h := h9
  clear h9
  refine lv_iconst (v := (1 : Int32)) B.1.1 B.1.2.1 dX5_has_7 (by decide) ?_
  refine lv_isub B.1.1 B.1.2.1 dX5_has_8 ?_
  refine q_callIS B h (met_X5_isIn l x2 (0 : Int32) (r1 - (1 : Int32))) (CB B 3 kC_X5_isIn kI_RX5 kM_RX5_69 hd_X5_isIn ⟨Nat.le_of_ble_eq_true rfl, Nat.le_of_ble_eq_true rfl⟩) kS_X5_isIn (rest := []) rfl rfl hl.1 (Nat.le_of_ble_eq_true rfl) dX5_has_9 ⟨Nat.le_of_ble_eq_true rfl, Nat.le_of_ble_eq_true rfl⟩ hw (fun r2 S2 H locs hw9 h9 => ?_)
  replace hw := hw9
  clear hw9
  replace h := h9
  clear h9
  refine lv_if_eq (tgt := 40) B.1.1 B.1.2.1 dX5_has_12 (by decide) (fun hc => ?_) (fun hc => ?_)
  · replace hw := hw.1 hc
    refine lv_iconst (v := (0 : Int32)) B.1.1 B.1.2.1 dX5_has_40 (by decide) ?_
    exact q_zret B hr hlk h (by decide) hw dX5_has_41 (Nat.le_of_ble_eq_true rfl) (Nat.le_of_ble_eq_true rfl)
  · replace hw := hw.2 hc
    refine lv_iload_n B.1.1 B.1.2.1 dX5_has_15 rfl (lv_at hl 3 rfl) ?_
    refine lv_aload_n B.1.1 B.1.2.1 dX5_has_16 rfl (lv_at hl 0 rfl) ?_
    refine lv_iload_n B.1.1 B.1.2.1 dX5_has_17 rfl (lv_at hl 1 rfl) ?_
    refine lv_iload_n B.1.1 B.1.2.1 dX5_has_18 rfl (lv_at hl 2 rfl) ?_
    obtain ⟨hok, hw⟩ := hw
    refine q_callIV B h (met_X5_first l a0 x1 x2) (CB B 2 kC_X5_first kI_RX5 kM_RX5_84 hd_X5_first ⟨Nat.le_of_ble_eq_true rfl, Nat.le_of_ble_eq_true rfl⟩) kO_X5_first kV_X5_first (ci := 5) rfl (by decide) hok.1 hok.2 (rest := [.int x3]) rfl rfl hl.1 (Nat.le_of_ble_eq_true rfl) dX5_has_19 ⟨Nat.le_of_ble_eq_true rfl, Nat.le_of_ble_eq_true rfl⟩ hw (fun r3 S3 H locs hw9 h9 => ?_)
    replace hw := hw9
    clear hw9
    replace h := h9
    clear h9
    refine lv_aload_n B.1.1 B.1.2.1 dX5_has_22 rfl (lv_at hl 0 rfl) ?_
    refine lv_iload_n B.1.1 B.1.2.1 dX5_has_23 rfl (lv_at hl 1 rfl) ?_
    refine lv_iload_n B.1.1 B.1.2.1 dX5_has_24 rfl (lv_at hl 2 rfl) ?_
    obtain ⟨hok, hw⟩ := hw
    refine q_callIV B h (met_X5_end l a0 x1 x2) (CB B 2 kC_X5_end kI_RX5 kM_RX5_88 hd_X5_end ⟨Nat.le_of_ble_eq_true rfl, Nat.le_of_ble_eq_true rfl⟩) kO_X5_end kV_X5_end (ci := 5) rfl (by decide) hok.1 hok.2 (rest := [.int r3, .int x3]) rfl rfl hl.1 (Nat.le_of_ble_eq_true rfl) dX5_has_25 ⟨Nat.le_of_ble_eq_true rfl, Nat.le_of_ble_eq_true rfl⟩ hw (fun r4 S4 H locs hw9 h9 => ?_)
    replace hw := hw9
    clear hw9
    replace h := h9
    clear h9
    refine lv_iconst (v := (1 : Int32)) B.1.1 B.1.2.1 dX5_has_28 (by decide) ?_
    refine lv_isub B.1.1 B.1.2.1 dX5_has_29 ?_
    refine q_callIS B h (met_X5_isIn l x3 r3 (r4 - (1 : Int32))) (CB B 3 kC_X5_isIn kI_RX5 kM_RX5_69 hd_X5_isIn ⟨Nat.le_of_ble_eq_true rfl, Nat.le_of_ble_eq_true rfl⟩) kS_X5_isIn (rest := []) rfl rfl hl.1 (Nat.le_of_ble_eq_true rfl) dX5_has_30 ⟨Nat.le_of_ble_eq_true rfl, Nat.le_of_ble_eq_true rfl⟩ hw (fun r5 S5 H locs hw9 h9 => ?_)
    replace hw := hw9
    clear hw9
    replace h := h9
    clear h9
    refine lv_if_eq (tgt := 40) B.1.1 B.1.2.1 dX5_has_33 (by decide) (fun hc => ?_) (fun hc => ?_)
    · replace hw := hw.1 hc
      refine lv_iconst (v := (0 : Int32)) B.1.1 B.1.2.1 dX5_has_40 (by decide) ?_
      exact q_zret B hr hlk h (by decide) hw dX5_has_41 (Nat.le_of_ble_eq_true rfl) (Nat.le_of_ble_eq_true rfl)
    · replace hw := hw.2 hc
      refine lv_iconst (v := (1 : Int32)) B.1.1 B.1.2.1 dX5_has_36 (by decide) ?_
      refine lv_goto (tgt := 41) B.1.1 B.1.2.1 dX5_has_37 (by decide) ?_
      exact q_zret B hr hlk h (by decide) hw dX5_has_41 (Nat.le_of_ble_eq_true rfl) (Nat.le_of_ble_eq_true rfl)
set_option maxHeartbeats 4000000 in
set_option maxRecDepth 100000 in
theorem met_X5_lays (l : Launch) (a0 : Nat) (x1 : Int32) (x2 : Int32) (x3 : Int32) (x4 : Int32) : MI l yX5_lays cX5_lays 6 (some .int) 4 90 0 0 [.ref a0, .int x1, .int x2, .int x3, .int x4] (wX5_lays a0 x1 x2 x3 x4) := by
  refine MI.of (by decide) (Nat.le_of_ble_eq_true rfl) ?_
  intro p e s m below meth c D cs lo S Q ls B hr hlk hin
  intro h hl hw
  replace hl : lv_has ls 6 [(0, .ref a0), (1, .int x1), (2, .int x2), (3, .int x3), (4, .int x4)] := hl
  refine lv_aload_n B.1.1 B.1.2.1 dX5_lays_0 rfl (lv_at hl 0 rfl) ?_
  obtain ⟨hok, hw⟩ := hw
  refine q_getR B h (ci := 5) (j := 7) (code := 167) rfl inT_5 (by decide) kF_RX5_25 rfl rfl rfl (by decide) dX5_lays_1 hok.1 hok.2 ?_
  obtain ⟨o1, hoo1⟩ : ∃ z, z = gR S 167 a0 := ⟨_, rfl⟩
  rw [← hoo1]
  replace hw := hw o1 hoo1
  refine lv_iload_n B.1.1 B.1.2.1 dX5_lays_4 rfl (lv_at hl 1 rfl) ?_
  refine lv_iload_n B.1.1 B.1.2.1 dX5_lays_5 rfl (lv_at hl 3 rfl) ?_
  refine lv_iload B.1.1 B.1.2.1 dX5_lays_6 (lv_at hl 4 rfl) ?_
  refine q_callIS B h (met_X5_dot l x1 x3 x4) (CB B 3 kC_X5_dot kI_RX5 kM_RX5_97 hd_X5_dot ⟨Nat.le_of_ble_eq_true rfl, Nat.le_of_ble_eq_true rfl⟩) kS_X5_dot (rest := [va_rf o1]) rfl rfl hl.1 (by simp [rf_cat, cat_i, cat_r, cat_n, cat_j, cat_f, cat_d]) dX5_lays_8 ⟨Nat.le_of_ble_eq_true rfl, Nat.le_of_ble_eq_true rfl⟩ hw (fun r1 S1 H locs hw9 h9 => ?_)
  replace hw := hw9
  clear hw9
  replace h := h9
  clear h9
  obtain ⟨q1, hn, hw⟩ := hw
  subst hn
  replace hl : lv_has ls 6 [(0, .ref a0), (1, .int x1), (2, .int x2), (3, .int x3), (4, .int x4)] := hl
  obtain ⟨hok, hin9, hw⟩ := hw
  refine q_iald B h dX5_lays_11 hok.1 hok.2 hin9 ?_
  refine lv_istore (i := 5) (lv' := [(5, .int (gA S1 q1 r1.toNatClampNeg)), (0, .ref a0), (1, .int x1), (2, .int x2), (3, .int x3), (4, .int x4)]) B.1.1 B.1.2.1 dX5_lays_12 hl (by decide) rfl (fun ls hl9 => ?_)
  replace hl := hl9
  clear hl9
  refine lv_aload_n B.1.1 B.1.2.1 dX5_lays_14 rfl (lv_at hl 1 rfl) ?_
  refine lv_iload_n B.1.1 B.1.2.1 dX5_lays_15 rfl (lv_at hl 2 rfl) ?_
  refine lv_iload_n B.1.1 B.1.2.1 dX5_lays_16 rfl (lv_at hl 3 rfl) ?_
  refine lv_iload B.1.1 B.1.2.1 dX5_lays_17 (lv_at hl 5 rfl) ?_
  obtain ⟨hok, hw⟩ := hw
  refine q_callIV B h (met_X5_has l a0 x1 x2 x4) (CB B 3 kC_X5_has kI_RX5 kM_RX5_101 hd_X5_has ⟨Nat.le_of_ble_eq_true rfl, Nat.le_of_ble_eq_true rfl⟩) kO_X5_has kV_X5_has (ci := 5) rfl (by decide) hok.1 hok.2 (rest := []) rfl rfl hl.1 (Nat.le_of_ble_eq_true rfl) dX5_lays_19 ⟨Nat.le_of_ble_eq_true rfl, Nat.le_of_ble_eq_true rfl⟩ hw (fun r2 S2 H locs hw9 h9 => ?_)
  replace hw := hw9
  clear hw9
  replace h := h9
  clear h9
  refine lv_if_ne (tgt := 27) B.1.1 B.1.2.1 dX5_lays_22 (by decide) (fun hc => ?_) (fun hc => ?_)
  · replace hw := hw.1 hc
    refine lv_aload_n B.1.1 B.1.2.1 dX5_lays_27 rfl (lv_at hl 1 rfl) ?_
    refine lv_iload_n B.1.1 B.1.2.1 dX5_lays_28 rfl (lv_at hl 2 rfl) ?_
    refine lv_iload_n B.1.1 B.1.2.1 dX5_lays_29 rfl (lv_at hl 3 rfl) ?_
    refine lv_iconst (v := (1 : Int32)) B.1.1 B.1.2.1 dX5_lays_30 (by decide) ?_
    refine lv_iadd B.1.1 B.1.2.1 dX5_lays_31 ?_
    refine lv_iload B.1.1 B.1.2.1 dX5_lays_32 (lv_at hl 5 rfl) ?_
    obtain ⟨hok, hw⟩ := hw
    refine q_callIV B h (met_X5_has l a0 x1 (x2 + (1 : Int32)) x4) (CB B 3 kC_X5_has kI_RX5 kM_RX5_101 hd_X5_has ⟨Nat.le_of_ble_eq_true rfl, Nat.le_of_ble_eq_true rfl⟩) kO_X5_has kV_X5_has (ci := 5) rfl (by decide) hok.1 hok.2 (rest := []) rfl rfl hl.1 (Nat.le_of_ble_eq_true rfl) dX5_lays_34 ⟨Nat.le_of_ble_eq_true rfl, Nat.le_of_ble_eq_true rfl⟩ hw (fun r3 S3 H locs hw9 h9 => ?_)
    replace hw := hw9
    clear hw9
    replace h := h9
    clear h9
    refine lv_if_eq (tgt := 49) B.1.1 B.1.2.1 dX5_lays_37 (by decide) (fun hc => ?_) (fun hc => ?_)
    · replace hw := hw.1 hc
      refine lv_aload_n B.1.1 B.1.2.1 dX5_lays_49 rfl (lv_at hl 1 rfl) ?_
      refine lv_iload_n B.1.1 B.1.2.1 dX5_lays_50 rfl (lv_at hl 2 rfl) ?_
      refine lv_iload_n B.1.1 B.1.2.1 dX5_lays_51 rfl (lv_at hl 3 rfl) ?_
      refine lv_iconst (v := (1 : Int32)) B.1.1 B.1.2.1 dX5_lays_52 (by decide) ?_
      refine lv_isub B.1.1 B.1.2.1 dX5_lays_53 ?_
      refine lv_iload B.1.1 B.1.2.1 dX5_lays_54 (lv_at hl 5 rfl) ?_
      obtain ⟨hok, hw⟩ := hw
      refine q_callIV B h (met_X5_has l a0 x1 (x2 - (1 : Int32)) x4) (CB B 3 kC_X5_has kI_RX5 kM_RX5_101 hd_X5_has ⟨Nat.le_of_ble_eq_true rfl, Nat.le_of_ble_eq_true rfl⟩) kO_X5_has kV_X5_has (ci := 5) rfl (by decide) hok.1 hok.2 (rest := []) rfl rfl hl.1 (Nat.le_of_ble_eq_true rfl) dX5_lays_56 ⟨Nat.le_of_ble_eq_true rfl, Nat.le_of_ble_eq_true rfl⟩ hw (fun r4 S4 H locs hw9 h9 => ?_)
      replace hw := hw9
      clear hw9
      replace h := h9
      clear h9
      refine lv_if_eq (tgt := 69) B.1.1 B.1.2.1 dX5_lays_59 (by decide) (fun hc => ?_) (fun hc => ?_)
      · replace hw := hw.1 hc
        refine lv_iload B.1.1 B.1.2.1 dX5_lays_69 (lv_at hl 0 rfl) ?_
        exact q_iret B hr hlk h hw dX5_lays_71 (Nat.le_of_ble_eq_true rfl) (Nat.le_of_ble_eq_true rfl)
      · replace hw := hw.2 hc
        refine lv_iload B.1.1 B.1.2.1 dX5_lays_62 (lv_at hl 0 rfl) ?_
        refine lv_iconst (v := (2 : Int32)) B.1.1 B.1.2.1 dX5_lays_64 (by decide) ?_
        refine lv_idiv B.1.1 B.1.2.1 dX5_lays_65 (by decide) ?_
        refine lv_goto (tgt := 71) B.1.1 B.1.2.1 dX5_lays_66 (by decide) ?_
        exact q_iret B hr hlk h hw dX5_lays_71 (Nat.le_of_ble_eq_true rfl) (Nat.le_of_ble_eq_true rfl)
    · replace hw := hw.2 hc
      refine lv_iload B.1.1 B.1.2.1 dX5_lays_40 (lv_at hl 0 rfl) ?_
      refine lv_iconst (v := (1 : Int32)) B.1.1 B.1.2.1 dX5_lays_42 (by decide) ?_
      refine lv_iadd B.1.1 B.1.2.1 dX5_lays_43 ?_
      refine lv_iconst (v := (2 : Int32)) B.1.1 B.1.2.1 dX5_lays_44 (by decide) ?_
      refine lv_idiv B.1.1 B.1.2.1 dX5_lays_45 (by decide) ?_
      refine lv_goto (tgt := 71) B.1.1 B.1.2.1 dX5_lays_46 (by decide) ?_
      exact q_iret B hr hlk h hw dX5_lays_71 (Nat.le_of_ble_eq_true rfl) (Nat.le_of_ble_eq_true rfl)
  · replace hw := hw.2 hc
    refine lv_iconst (v := (0 : Int32)) B.1.1 B.1.2.1 dX5_lays_25 (by decide) ?_
    exact q_iret B hr hlk h hw dX5_lays_26 (Nat.le_of_ble_eq_true rfl) (Nat.le_of_ble_eq_true rfl)
set_option maxHeartbeats 4000000 in
set_option maxRecDepth 100000 in
theorem met_X5_blocked (l : Launch) (a0 : Nat) (x1 : Int32) : MI l yX5_blocked cX5_blocked 4 (some .int) 0 0 0 0 [.ref a0, .int x1] (wX5_blocked a0 x1) := by
  refine MI.of (by decide) (Nat.le_of_ble_eq_true rfl) ?_
  intro p e s m below meth c D cs lo S Q ls B hr hlk hin
  have L4 : ∀ (c0 : Nat) (c1 : Int32) (K : Int32 → Int32 → HS → Prop) (n : Nat) (m2 : Int32) (m3 : Int32) (S : HS) (H : Heap) (locs : List Loc) (ls : Array Slot), Hx D cs lo s S H locs → lv_has ls 4 [(0, .ref c0), (1, .int c1), (2, .int m2), (3, .int m3)] → wX5_blocked_L4 c0 c1 n m2 m3 S K → (∀ (m2 : Int32) (m3 : Int32) (S : HS) (H : Heap) (locs : List Loc) (ls : Array Slot), Hx D cs lo s S H locs → lv_has ls 4 [(0, .ref c0), (1, .int c1), (2, .int m2), (3, .int m3)] → K m2 m3 S → W p l e ({ frames := 0, cells := 0, slots := 0, locals := 0 } : Room) s m [.ref a0, .int x1].toArray below meth c H locs 0 0 (MQ below (va_Qi Q (fun S' t => hp D cs lo S' t.heap) (fun q => lo ≤ q)) [.ref a0, .int x1].toArray s 0 0 (fun q => lo ≤ q)) (F0 m 38 ls [])) → W p l e ({ frames := 0, cells := 0, slots := 0, locals := 0 } : Room) s m [.ref a0, .int x1].toArray below meth c H locs 0 0 (MQ below (va_Qi Q (fun S' t => hp D cs lo S' t.heap) (fun q => lo ≤ q)) [.ref a0, .int x1].toArray s 0 0 (fun q => lo ≤ q)) (F0 m 4 ls []) := by
    intro c0 c1 K n
    induction n with
    | zero => intro m2 m3 S H locs ls h hl hw hk; exact False.elim hw
    | succ n ih =>
      intro m2 m3 S H locs ls h hl hw hk
      refine lv_iload_n B.1.1 B.1.2.1 dX5_blocked_4 rfl (lv_at hl 3 rfl) ?_
      refine lv_bipush (v := (8 : Int32)) B.1.1 B.1.2.1 dX5_blocked_5 (by decide) ?_
      refine lv_icmp_ge (tgt := 38) B.1.1 B.1.2.1 dX5_blocked_7 (by decide) (fun hc => ?_) (fun hc => ?_)
      · replace hw := hw.1 hc
        exact hk m2 m3 _ _ _ ls h (lv_sub hl [0, 1, 2, 3] rfl) hw
      · replace hw := hw.2 hc
        refine lv_iload_n B.1.1 B.1.2.1 dX5_blocked_10 rfl (lv_at hl 2 rfl) ?_
        refine lv_aload_n B.1.1 B.1.2.1 dX5_blocked_11 rfl (lv_at hl 0 rfl) ?_
        obtain ⟨hok, hw⟩ := hw
        refine q_getR B h (ci := 5) (j := 14) (code := 174) rfl inT_5 (by decide) kF_RX5_46 rfl rfl rfl (by decide) dX5_blocked_12 hok.1 hok.2 ?_
        obtain ⟨o1, hoo1⟩ : ∃ z, z = gR S 174 c0 := ⟨_, rfl⟩
        rw [← hoo1]
        replace hw := hw o1 hoo1
        refine lv_bipush (v := (8 : Int32)) B.1.1 B.1.2.1 dX5_blocked_15 (by decide) ?_
        refine lv_iload_n B.1.1 B.1.2.1 dX5_blocked_17 rfl (lv_at hl 1 rfl) ?_
        refine lv_imul B.1.1 B.1.2.1 dX5_blocked_18 ?_
        refine lv_iload_n B.1.1 B.1.2.1 dX5_blocked_19 rfl (lv_at hl 3 rfl) ?_
        refine lv_iadd B.1.1 B.1.2.1 dX5_blocked_20 ?_
        obtain ⟨q1, hn, hw⟩ := hw
        subst hn
        replace hl : lv_has ls 4 [(0, .ref c0), (1, .int c1), (2, .int m2), (3, .int m3)] := hl
        obtain ⟨hok, hin9, hw⟩ := hw
        refine q_zald B h dX5_blocked_21 hok.1 hok.2 hin9 ?_
        refine lv_if_eq (tgt := 29) B.1.1 B.1.2.1 dX5_blocked_22 (by decide) (fun hc => ?_) (fun hc => ?_)
        · replace hw := hw.1 hc
          refine lv_iconst (v := (0 : Int32)) B.1.1 B.1.2.1 dX5_blocked_29 (by decide) ?_
          refine lv_iadd B.1.1 B.1.2.1 dX5_blocked_30 ?_
          refine lv_istore_n (i := 2) (lv' := [(2, .int (m2 + (0 : Int32))), (0, .ref c0), (1, .int c1), (3, .int m3)]) B.1.1 B.1.2.1 dX5_blocked_31 rfl hl (by decide) rfl (fun ls hl9 => ?_)
          replace hl := hl9
          clear hl9
          refine lv_iinc (i := 3) (v := (m3 + (1 : Int32))) (lv' := [(3, .int (m3 + (1 : Int32))), (2, .int (m2 + (0 : Int32))), (0, .ref c0), (1, .int c1)]) B.1.1 B.1.2.1 dX5_blocked_32 hl (k := 3) rfl rfl (by decide) rfl (fun ls hl9 => ?_)
          replace hl := hl9
          clear hl9
          refine lv_goto (tgt := 4) B.1.1 B.1.2.1 dX5_blocked_35 (by decide) ?_
          exact ih (m2 + (0 : Int32)) (m3 + (1 : Int32)) _ _ _ ls h (lv_sub hl [2, 3, 1, 0] rfl) hw hk
        · replace hw := hw.2 hc
          refine lv_iconst (v := (1 : Int32)) B.1.1 B.1.2.1 dX5_blocked_25 (by decide) ?_
          refine lv_goto (tgt := 30) B.1.1 B.1.2.1 dX5_blocked_26 (by decide) ?_
          refine lv_iadd B.1.1 B.1.2.1 dX5_blocked_30 ?_
          refine lv_istore_n (i := 2) (lv' := [(2, .int (m2 + (1 : Int32))), (0, .ref c0), (1, .int c1), (3, .int m3)]) B.1.1 B.1.2.1 dX5_blocked_31 rfl hl (by decide) rfl (fun ls hl9 => ?_)
          replace hl := hl9
          clear hl9
          refine lv_iinc (i := 3) (v := (m3 + (1 : Int32))) (lv' := [(3, .int (m3 + (1 : Int32))), (2, .int (m2 + (1 : Int32))), (0, .ref c0), (1, .int c1)]) B.1.1 B.1.2.1 dX5_blocked_32 hl (k := 3) rfl rfl (by decide) rfl (fun ls hl9 => ?_)
          replace hl := hl9
          clear hl9
          refine lv_goto (tgt := 4) B.1.1 B.1.2.1 dX5_blocked_35 (by decide) ?_
          exact ih (m2 + (1 : Int32)) (m3 + (1 : Int32)) _ _ _ ls h (lv_sub hl [2, 3, 1, 0] rfl) hw hk
  intro h hl hw
  replace hl : lv_has ls 4 [(0, .ref a0), (1, .int x1)] := hl
  refine lv_iconst (v := (0 : Int32)) B.1.1 B.1.2.1 dX5_blocked_0 (by decide) ?_
  refine lv_istore_n (i := 2) (lv' := [(2, .int (0 : Int32)), (0, .ref a0), (1, .int x1)]) B.1.1 B.1.2.1 dX5_blocked_1 rfl hl (by decide) rfl (fun ls hl9 => ?_)
  replace hl := hl9
  clear hl9
  refine lv_iconst (v := (0 : Int32)) B.1.1 B.1.2.1 dX5_blocked_2 (by decide) ?_
  refine lv_istore_n (i := 3) (lv' := [(3, .int (0 : Int32)), (2, .int (0 : Int32)), (0, .ref a0), (1, .int x1)]) B.1.1 B.1.2.1 dX5_blocked_3 rfl hl (by decide) rfl (fun ls hl9 => ?_)
  replace hl := hl9
  clear hl9
  obtain ⟨n1, hw⟩ := hw
  refine L4 a0 x1 _ n1 (0 : Int32) (0 : Int32) _ _ _ ls h (lv_sub hl [2, 3, 1, 0] rfl) hw (fun u1 u2 S1 H locs ls h9 hl9 hw9 => ?_)
  replace hw := hw9
  clear hw9
  replace h := h9
  clear h9
  replace hl := hl9
  clear hl9
  refine lv_iload_n B.1.1 B.1.2.1 dX5_blocked_38 rfl (lv_at hl 2 rfl) ?_
  exact q_iret B hr hlk h hw dX5_blocked_39 (Nat.le_of_ble_eq_true rfl) (Nat.le_of_ble_eq_true rfl)
set_option maxHeartbeats 4000000 in
set_option maxRecDepth 100000 in
theorem met_X5_wants (l : Launch) (a0 : Nat) (x1 : Int32) (x2 : Int32) (x3 : Int32) : MV l yX5_wants cX5_wants 5 none 0 0 0 0 [.ref a0, .int x1, .int x2, .int x3] (wX5_wants a0 x1 x2 x3) := by
  refine MV.of (by decide) (Nat.le_of_ble_eq_true rfl) ?_
  intro p e s m below meth c D cs lo S Q ls B hr hlk hin
  intro h hl hw
  replace hl : lv_has ls 5 [(0, .ref a0), (1, .int x1), (2, .int x2), (3, .int x3)] := hl
  refine lv_iload_n B.1.1 B.1.2.1 dX5_wants_0 rfl (lv_at hl 3 rfl) ?_
  refine lv_aload_n B.1.1 B.1.2.1 dX5_wants_1 rfl (lv_at hl 0 rfl) ?_
  obtain ⟨hok, hw⟩ := hw
  refine q_getR B h (ci := 5) (j := 13) (code := 173) rfl inT_5 (by decide) kF_RX5_43 rfl rfl rfl (by decide) dX5_wants_2 hok.1 hok.2 ?_
  obtain ⟨o1, hoo1⟩ : ∃ z, z = gR S 173 a0 := ⟨_, rfl⟩
  rw [← hoo1]
  replace hw := hw o1 hoo1
  refine lv_iload_n B.1.1 B.1.2.1 dX5_wants_5 rfl (lv_at hl 1 rfl) ?_
  obtain ⟨q1, hn, hw⟩ := hw
  subst hn
  replace hl : lv_has ls 5 [(0, .ref a0), (1, .int x1), (2, .int x2), (3, .int x3)] := hl
  obtain ⟨hok, hin9, hw⟩ := hw
  refine q_iald B h dX5_wants_6 hok.1 hok.2 hin9 ?_
  refine lv_imul B.1.1 B.1.2.1 dX5_wants_7 ?_
  refine lv_bipush (v := (100 : Int32)) B.1.1 B.1.2.1 dX5_wants_8 (by decide) ?_
  refine lv_idiv B.1.1 B.1.2.1 dX5_wants_10 (by decide) ?_
  refine lv_istore (i := 4) (lv' := [(4, .int ((x3 * (gA S q1 x1.toNatClampNeg)) / (100 : Int32))), (0, .ref a0), (1, .int x1), (2, .int x2), (3, .int x3)]) B.1.1 B.1.2.1 dX5_wants_11 hl (by decide) rfl (fun ls hl9 => ?_)
  replace hl := hl9
  clear hl9
  refine lv_aload_n B.1.1 B.1.2.1 dX5_wants_13 rfl (lv_at hl 1 rfl) ?_
  obtain ⟨hok, hw⟩ := hw
  refine q_getR B h (ci := 5) (j := 18) (code := 178) rfl inT_5 (by decide) kF_RX5_59 rfl rfl rfl (by decide) dX5_wants_14 hok.1 hok.2 ?_
  obtain ⟨o2, hoo2⟩ : ∃ z, z = gR S 178 a0 := ⟨_, rfl⟩
  rw [← hoo2]
  replace hw := hw o2 hoo2
  refine lv_iload_n B.1.1 B.1.2.1 dX5_wants_17 rfl (lv_at hl 3 rfl) ?_
  refine lv_iload B.1.1 B.1.2.1 dX5_wants_18 (lv_at hl 0 rfl) ?_
  refine lv_bipush (v := (15 : Int32)) B.1.1 B.1.2.1 dX5_wants_20 (by decide) ?_
  refine lv_icmp_le (tgt := 30) B.1.1 B.1.2.1 dX5_wants_22 (by decide) (fun hc => ?_) (fun hc => ?_)
  · replace hw := hw.1 hc
    refine lv_iload B.1.1 B.1.2.1 dX5_wants_30 (lv_at hl 0 rfl) ?_
    obtain ⟨q2, hn, hw⟩ := hw
    subst hn
    replace hl : lv_has ls 5 [(4, .int ((x3 * (gA S q1 x1.toNatClampNeg)) / (100 : Int32))), (0, .ref a0), (1, .int x1), (2, .int x2), (3, .int x3)] := hl
    obtain ⟨hok, hin9, hw⟩ := hw
    refine q_iast B h dX5_wants_32 hok.1 hok.2 hin9 (fun H locs h9 => ?_)
    obtain ⟨S1, hS1, hh⟩ : ∃ z, z = sA S q2 x2.toNatClampNeg ((x3 * (gA S q1 x1.toNatClampNeg)) / (100 : Int32)) ∧ Hx D cs lo s z H locs := ⟨_, rfl, h9⟩
    clear h9
    replace h := hh
    clear hh
    replace hw := hw S1 hS1
    exact q_vret B hr hlk h hw dX5_wants_33 (Nat.le_of_ble_eq_true rfl) (Nat.le_of_ble_eq_true rfl)
  · replace hw := hw.2 hc
    refine lv_bipush (v := (15 : Int32)) B.1.1 B.1.2.1 dX5_wants_25 (by decide) ?_
    refine lv_goto (tgt := 32) B.1.1 B.1.2.1 dX5_wants_27 (by decide) ?_
    obtain ⟨q3, hn, hw⟩ := hw
    subst hn
    replace hl : lv_has ls 5 [(4, .int ((x3 * (gA S q1 x1.toNatClampNeg)) / (100 : Int32))), (0, .ref a0), (1, .int x1), (2, .int x2), (3, .int x3)] := hl
    obtain ⟨hok, hin9, hw⟩ := hw
    refine q_iast B h dX5_wants_32 hok.1 hok.2 hin9 (fun H locs h9 => ?_)
    obtain ⟨S2, hS2, hh⟩ : ∃ z, z = sA S q3 x2.toNatClampNeg (15 : Int32) ∧ Hx D cs lo s z H locs := ⟨_, rfl, h9⟩
    clear h9
    replace h := hh
    clear hh
    replace hw := hw S2 hS2
    exact q_vret B hr hlk h hw dX5_wants_33 (Nat.le_of_ble_eq_true rfl) (Nat.le_of_ble_eq_true rfl)
set_option maxHeartbeats 4000000 in
set_option maxRecDepth 100000 in
theorem met_X5_isOff (l : Launch) (a0 : Nat) (x1 : Int32) (x2 : Int32) : MI l yX5_isOff cX5_isOff 3 (some .boolean) 2 42 0 0 [.ref a0, .int x1, .int x2] (wX5_isOff a0 x1 x2) := by
  refine MI.of (by decide) (Nat.le_of_ble_eq_true rfl) ?_
  intro p e s m below meth c D cs lo S Q ls B hr hlk hin
  intro h hl hw
  replace hl : lv_has ls 3 [(0, .ref a0), (1, .int x1), (2, .int x2)] := hl
  refine lv_iload_n B.1.1 B.1.2.1 dX5_isOff_0 rfl (lv_at hl 2 rfl) ?_
  refine q_callIS B h (met_X5_isRow l x2) (CB B 1 kC_X5_isRow kI_RX5 kM_RX5_81 hd_X5_isRow ⟨Nat.le_of_ble_eq_true rfl, Nat.le_of_ble_eq_true rfl⟩) kS_X5_isRow (rest := []) rfl rfl hl.1 (Nat.le_of_ble_eq_true rfl) dX5_isOff_1 ⟨Nat.le_of_ble_eq_true rfl, Nat.le_of_ble_eq_true rfl⟩ hw (fun r1 S1 H locs hw9 h9 => ?_)
  replace hw := hw9
  clear hw9
  replace h := h9
  clear h9
  refine lv_if_eq (tgt := 25) B.1.1 B.1.2.1 dX5_isOff_4 (by decide) (fun hc => ?_) (fun hc => ?_)
  · replace hw := hw.1 hc
    refine lv_iconst (v := (0 : Int32)) B.1.1 B.1.2.1 dX5_isOff_25 (by decide) ?_
    exact q_zret B hr hlk h (by decide) hw dX5_isOff_26 (Nat.le_of_ble_eq_true rfl) (Nat.le_of_ble_eq_true rfl)
  · replace hw := hw.2 hc
    refine lv_aload_n B.1.1 B.1.2.1 dX5_isOff_7 rfl (lv_at hl 0 rfl) ?_
    obtain ⟨hok, hw⟩ := hw
    refine q_getR B h (ci := 5) (j := 14) (code := 174) rfl inT_5 (by decide) kF_RX5_46 rfl rfl rfl (by decide) dX5_isOff_8 hok.1 hok.2 ?_
    obtain ⟨o1, hoo1⟩ : ∃ z, z = gR S1 174 a0 := ⟨_, rfl⟩
    rw [← hoo1]
    replace hw := hw o1 hoo1
    refine lv_bipush (v := (8 : Int32)) B.1.1 B.1.2.1 dX5_isOff_11 (by decide) ?_
    refine lv_iload_n B.1.1 B.1.2.1 dX5_isOff_13 rfl (lv_at hl 1 rfl) ?_
    refine lv_imul B.1.1 B.1.2.1 dX5_isOff_14 ?_
    refine lv_iload_n B.1.1 B.1.2.1 dX5_isOff_15 rfl (lv_at hl 2 rfl) ?_
    refine lv_iadd B.1.1 B.1.2.1 dX5_isOff_16 ?_
    obtain ⟨q1, hn, hw⟩ := hw
    subst hn
    replace hl : lv_has ls 3 [(0, .ref a0), (1, .int x1), (2, .int x2)] := hl
    obtain ⟨hok, hin9, hw⟩ := hw
    refine q_zald B h dX5_isOff_17 hok.1 hok.2 hin9 ?_
    refine lv_if_eq (tgt := 25) B.1.1 B.1.2.1 dX5_isOff_18 (by decide) (fun hc => ?_) (fun hc => ?_)
    · replace hw := hw.1 hc
      refine lv_iconst (v := (0 : Int32)) B.1.1 B.1.2.1 dX5_isOff_25 (by decide) ?_
      exact q_zret B hr hlk h (by decide) hw dX5_isOff_26 (Nat.le_of_ble_eq_true rfl) (Nat.le_of_ble_eq_true rfl)
    · replace hw := hw.2 hc
      refine lv_iconst (v := (1 : Int32)) B.1.1 B.1.2.1 dX5_isOff_21 (by decide) ?_
      refine lv_goto (tgt := 26) B.1.1 B.1.2.1 dX5_isOff_22 (by decide) ?_
      exact q_zret B hr hlk h (by decide) hw dX5_isOff_26 (Nat.le_of_ble_eq_true rfl) (Nat.le_of_ble_eq_true rfl)
set_option maxHeartbeats 4000000 in
set_option maxRecDepth 100000 in
theorem met_X5_nozzle (l : Launch) (a0 : Nat) (x1 : Int32) (x2 : Int32) : MI l yX5_nozzle cX5_nozzle 4 (some .int) 3 64 0 0 [.ref a0, .int x1, .int x2] (wX5_nozzle a0 x1 x2) := by
  refine MI.of (by decide) (Nat.le_of_ble_eq_true rfl) ?_
  intro p e s m below meth c D cs lo S Q ls B hr hlk hin
  have J74 : ∀ (v0 : Nat) (v1 : Int32) (t0 : Int32) (t1 : Int32) (S : HS) (H : Heap) (locs : List Loc) (ls : Array Slot), Hx D cs lo s S H locs → lv_has ls 4 [(0, .ref v0), (1, .int v1)] → wX5_nozzle_J74 v0 v1 t0 t1 S Q → W p l e ({ frames := 3, cells := 0, slots := 0, locals := 64 } : Room) s m [.ref a0, .int x1, .int x2].toArray below meth c H locs 0 0 (MQ below (va_Qi Q (fun S' t => hp D cs lo S' t.heap) (fun q => lo ≤ q)) [.ref a0, .int x1, .int x2].toArray s 0 0 (fun q => lo ≤ q)) (F0 m 74 ls [.int t0, .int t1]) := by
    intro v0 v1 t0 t1 S H locs ls h hl hw
    refine lv_iadd B.1.1 B.1.2.1 dX5_nozzle_74 ?_
    refine lv_istore_n (i := 3) (lv' := [(3, .int (t1 + t0)), (0, .ref v0), (1, .int v1)]) B.1.1 B.1.2.1 dX5_nozzle_75 rfl hl (by decide) rfl (fun ls hl9 => ?_)
    replace hl := hl9
    clear hl9
    refine lv_iload_n B.1.1 B.1.2.1 dX5_nozzle_76 rfl (lv_at hl 0 rfl) ?_
    refine lv_bipush (v := (15 : Int32)) B.1.1 B.1.2.1 dX5_nozzle_77 (by decide) ?_
    refine lv_icmp_le (tgt := 87) B.1.1 B.1.2.1 dX5_nozzle_79 (by decide) (fun hc => ?_) (fun hc => ?_)
    · replace hw := hw.1 hc
      refine lv_iload_n B.1.1 B.1.2.1 dX5_nozzle_87 rfl (lv_at hl 0 rfl) ?_
      refine lv_istore_n (i := 3) (lv' := [(3, .int (t1 + t0)), (0, .ref v0), (1, .int v1)]) B.1.1 B.1.2.1 dX5_nozzle_88 rfl hl (by decide) rfl (fun ls hl9 => ?_)
      replace hl := hl9
      clear hl9
      refine lv_iload_n B.1.1 B.1.2.1 dX5_nozzle_89 rfl (lv_at hl 0 rfl) ?_
      refine lv_aload_n B.1.1 B.1.2.1 dX5_nozzle_90 rfl (lv_at hl 1 rfl) ?_
      obtain ⟨hok, hw⟩ := hw
      refine q_getR B h (ci := 5) (j := 12) (code := 172) rfl inT_5 (by decide) kF_RX5_40 rfl rfl rfl (by decide) dX5_nozzle_91 hok.1 hok.2 ?_
      obtain ⟨o2, hoo2⟩ : ∃ z, z = gR S 172 v0 := ⟨_, rfl⟩
      rw [← hoo2]
      replace hw := hw o2 hoo2
      refine lv_iload_n B.1.1 B.1.2.1 dX5_nozzle_94 rfl (lv_at hl 2 rfl) ?_
      obtain ⟨q2, hn, hw⟩ := hw
      subst hn
      replace hl : lv_has ls 4 [(3, .int (t1 + t0)), (0, .ref v0), (1, .int v1)] := hl
      obtain ⟨hok, hin9, hw⟩ := hw
      refine q_iald B h dX5_nozzle_95 hok.1 hok.2 hin9 ?_
      refine lv_imul B.1.1 B.1.2.1 dX5_nozzle_96 ?_
      refine lv_bipush (v := (100 : Int32)) B.1.1 B.1.2.1 dX5_nozzle_97 (by decide) ?_
      refine lv_idiv B.1.1 B.1.2.1 dX5_nozzle_99 (by decide) ?_
      exact q_iret B hr hlk h hw dX5_nozzle_100 (Nat.le_of_ble_eq_true rfl) (Nat.le_of_ble_eq_true rfl)
    · replace hw := hw.2 hc
      refine lv_bipush (v := (15 : Int32)) B.1.1 B.1.2.1 dX5_nozzle_82 (by decide) ?_
      refine lv_goto (tgt := 88) B.1.1 B.1.2.1 dX5_nozzle_84 (by decide) ?_
      refine lv_istore_n (i := 3) (lv' := [(3, .int (15 : Int32)), (0, .ref v0), (1, .int v1)]) B.1.1 B.1.2.1 dX5_nozzle_88 rfl hl (by decide) rfl (fun ls hl9 => ?_)
      replace hl := hl9
      clear hl9
      refine lv_iload_n B.1.1 B.1.2.1 dX5_nozzle_89 rfl (lv_at hl 0 rfl) ?_
      refine lv_aload_n B.1.1 B.1.2.1 dX5_nozzle_90 rfl (lv_at hl 1 rfl) ?_
      obtain ⟨hok, hw⟩ := hw
      refine q_getR B h (ci := 5) (j := 12) (code := 172) rfl inT_5 (by decide) kF_RX5_40 rfl rfl rfl (by decide) dX5_nozzle_91 hok.1 hok.2 ?_
      obtain ⟨o3, hoo3⟩ : ∃ z, z = gR S 172 v0 := ⟨_, rfl⟩
      rw [← hoo3]
      replace hw := hw o3 hoo3
      refine lv_iload_n B.1.1 B.1.2.1 dX5_nozzle_94 rfl (lv_at hl 2 rfl) ?_
      obtain ⟨q3, hn, hw⟩ := hw
      subst hn
      replace hl : lv_has ls 4 [(3, .int (15 : Int32)), (0, .ref v0), (1, .int v1)] := hl
      obtain ⟨hok, hin9, hw⟩ := hw
      refine q_iald B h dX5_nozzle_95 hok.1 hok.2 hin9 ?_
      refine lv_imul B.1.1 B.1.2.1 dX5_nozzle_96 ?_
      refine lv_bipush (v := (100 : Int32)) B.1.1 B.1.2.1 dX5_nozzle_97 (by decide) ?_
      refine lv_idiv B.1.1 B.1.2.1 dX5_nozzle_99 (by decide) ?_
      exact q_iret B hr hlk h hw dX5_nozzle_100 (Nat.le_of_ble_eq_true rfl) (Nat.le_of_ble_eq_true rfl)
  have J46 : ∀ (v0 : Nat) (v1 : Int32) (v2 : Int32) (t0 : Int32) (t1 : Int32) (S : HS) (H : Heap) (locs : List Loc) (ls : Array Slot), Hx D cs lo s S H locs → lv_has ls 4 [(0, .ref v0), (1, .int v1), (2, .int v2)] → wX5_nozzle_J46 v0 v1 v2 t0 t1 S Q → W p l e ({ frames := 3, cells := 0, slots := 0, locals := 64 } : Room) s m [.ref a0, .int x1, .int x2].toArray below meth c H locs 0 0 (MQ below (va_Qi Q (fun S' t => hp D cs lo S' t.heap) (fun q => lo ≤ q)) [.ref a0, .int x1, .int x2].toArray s 0 0 (fun q => lo ≤ q)) (F0 m 46 ls [.int t0, .int t1]) := by
    intro v0 v1 v2 t0 t1 S H locs ls h hl hw
    refine lv_iadd B.1.1 B.1.2.1 dX5_nozzle_46 ?_
    refine lv_istore_n (i := 3) (lv' := [(3, .int (t1 + t0)), (0, .ref v0), (1, .int v1), (2, .int v2)]) B.1.1 B.1.2.1 dX5_nozzle_47 rfl hl (by decide) rfl (fun ls hl9 => ?_)
    replace hl := hl9
    clear hl9
    refine lv_iload_n B.1.1 B.1.2.1 dX5_nozzle_48 rfl (lv_at hl 0 rfl) ?_
    refine lv_aload_n B.1.1 B.1.2.1 dX5_nozzle_49 rfl (lv_at hl 1 rfl) ?_
    refine lv_iload_n B.1.1 B.1.2.1 dX5_nozzle_50 rfl (lv_at hl 2 rfl) ?_
    refine lv_iload_n B.1.1 B.1.2.1 dX5_nozzle_51 rfl (lv_at hl 3 rfl) ?_
    refine lv_iconst (v := (1 : Int32)) B.1.1 B.1.2.1 dX5_nozzle_52 (by decide) ?_
    refine lv_isub B.1.1 B.1.2.1 dX5_nozzle_53 ?_
    obtain ⟨hok, hw⟩ := hw
    refine q_callIV B h (met_X5_isOff l v0 v1 (v2 - (1 : Int32))) (CB B 2 kC_X5_isOff kI_RX5 kM_RX5_118 hd_X5_isOff ⟨Nat.le_of_ble_eq_true rfl, Nat.le_of_ble_eq_true rfl⟩) kO_X5_isOff kV_X5_isOff (ci := 5) rfl (by decide) hok.1 hok.2 (rest := [.int (t1 + t0)]) rfl rfl hl.1 (Nat.le_of_ble_eq_true rfl) dX5_nozzle_54 ⟨Nat.le_of_ble_eq_true rfl, Nat.le_of_ble_eq_true rfl⟩ hw (fun r3 S3 H locs hw9 h9 => ?_)
    replace hw := hw9
    clear hw9
    replace h := h9
    clear h9
    refine lv_if_eq (tgt := 73) B.1.1 B.1.2.1 dX5_nozzle_57 (by decide) (fun hc => ?_) (fun hc => ?_)
    · replace hw := hw.1 hc
      refine lv_iconst (v := (0 : Int32)) B.1.1 B.1.2.1 dX5_nozzle_73 (by decide) ?_
      exact J74 v0 v1 (0 : Int32) (t1 + t0) _ _ _ ls h (lv_sub hl [1, 2] rfl) hw
    · replace hw := hw.2 hc
      refine lv_aload_n B.1.1 B.1.2.1 dX5_nozzle_60 rfl (lv_at hl 1 rfl) ?_
      obtain ⟨hok, hw⟩ := hw
      refine q_getR B h (ci := 5) (j := 18) (code := 178) rfl inT_5 (by decide) kF_RX5_59 rfl rfl rfl (by decide) dX5_nozzle_61 hok.1 hok.2 ?_
      obtain ⟨o4, hoo4⟩ : ∃ z, z = gR S3 178 v0 := ⟨_, rfl⟩
      rw [← hoo4]
      replace hw := hw o4 hoo4
      refine lv_iload_n B.1.1 B.1.2.1 dX5_nozzle_64 rfl (lv_at hl 3 rfl) ?_
      refine lv_iconst (v := (1 : Int32)) B.1.1 B.1.2.1 dX5_nozzle_65 (by decide) ?_
      refine lv_isub B.1.1 B.1.2.1 dX5_nozzle_66 ?_
      obtain ⟨q4, hn, hw⟩ := hw
      subst hn
      replace hl : lv_has ls 4 [(3, .int (t1 + t0)), (0, .ref v0), (1, .int v1), (2, .int v2)] := hl
      obtain ⟨hok, hin9, hw⟩ := hw
      refine q_iald B h dX5_nozzle_67 hok.1 hok.2 hin9 ?_
      refine lv_iconst (v := (2 : Int32)) B.1.1 B.1.2.1 dX5_nozzle_68 (by decide) ?_
      refine lv_idiv B.1.1 B.1.2.1 dX5_nozzle_69 (by decide) ?_
      refine lv_goto (tgt := 74) B.1.1 B.1.2.1 dX5_nozzle_70 (by decide) ?_
      exact J74 v0 v1 ((gA S3 q4 (v2 - (1 : Int32)).toNatClampNeg) / (2 : Int32)) (t1 + t0) _ _ _ ls h (lv_sub hl [1, 2] rfl) hw
  intro h hl hw
  replace hl : lv_has ls 4 [(0, .ref a0), (1, .int x1), (2, .int x2)] := hl
  refine lv_aload_n B.1.1 B.1.2.1 dX5_nozzle_0 rfl (lv_at hl 0 rfl) ?_
  refine lv_iload_n B.1.1 B.1.2.1 dX5_nozzle_1 rfl (lv_at hl 1 rfl) ?_
  refine lv_iload_n B.1.1 B.1.2.1 dX5_nozzle_2 rfl (lv_at hl 2 rfl) ?_
  obtain ⟨hok, hw⟩ := hw
  refine q_callIV B h (met_X5_isOff l a0 x1 x2) (CB B 2 kC_X5_isOff kI_RX5 kM_RX5_118 hd_X5_isOff ⟨Nat.le_of_ble_eq_true rfl, Nat.le_of_ble_eq_true rfl⟩) kO_X5_isOff kV_X5_isOff (ci := 5) rfl (by decide) hok.1 hok.2 (rest := []) rfl rfl hl.1 (Nat.le_of_ble_eq_true rfl) dX5_nozzle_3 ⟨Nat.le_of_ble_eq_true rfl, Nat.le_of_ble_eq_true rfl⟩ hw (fun r1 S1 H locs hw9 h9 => ?_)
  replace hw := hw9
  clear hw9
  replace h := h9
  clear h9
  refine lv_if_eq (tgt := 11) B.1.1 B.1.2.1 dX5_nozzle_6 (by decide) (fun hc => ?_) (fun hc => ?_)
  · replace hw := hw.1 hc
    refine lv_aload_n B.1.1 B.1.2.1 dX5_nozzle_11 rfl (lv_at hl 0 rfl) ?_
    obtain ⟨hok, hw⟩ := hw
    refine q_getR B h (ci := 5) (j := 18) (code := 178) rfl inT_5 (by decide) kF_RX5_59 rfl rfl rfl (by decide) dX5_nozzle_12 hok.1 hok.2 ?_
    obtain ⟨o1, hoo1⟩ : ∃ z, z = gR S1 178 a0 := ⟨_, rfl⟩
    rw [← hoo1]
    replace hw := hw o1 hoo1
    refine lv_iload_n B.1.1 B.1.2.1 dX5_nozzle_15 rfl (lv_at hl 2 rfl) ?_
    obtain ⟨q1, hn, hw⟩ := hw
    subst hn
    replace hl : lv_has ls 4 [(0, .ref a0), (1, .int x1), (2, .int x2)] := hl
    obtain ⟨hok, hin9, hw⟩ := hw
    refine q_iald B h dX5_nozzle_16 hok.1 hok.2 hin9 ?_
    refine lv_istore_n (i := 3) (lv' := [(3, .int (gA S1 q1 x2.toNatClampNeg)), (0, .ref a0), (1, .int x1), (2, .int x2)]) B.1.1 B.1.2.1 dX5_nozzle_17 rfl hl (by decide) rfl (fun ls hl9 => ?_)
    replace hl := hl9
    clear hl9
    refine lv_iload_n B.1.1 B.1.2.1 dX5_nozzle_18 rfl (lv_at hl 0 rfl) ?_
    refine lv_aload_n B.1.1 B.1.2.1 dX5_nozzle_19 rfl (lv_at hl 1 rfl) ?_
    refine lv_iload_n B.1.1 B.1.2.1 dX5_nozzle_20 rfl (lv_at hl 2 rfl) ?_
    refine lv_iload_n B.1.1 B.1.2.1 dX5_nozzle_21 rfl (lv_at hl 3 rfl) ?_
    refine lv_iconst (v := (1 : Int32)) B.1.1 B.1.2.1 dX5_nozzle_22 (by decide) ?_
    refine lv_iadd B.1.1 B.1.2.1 dX5_nozzle_23 ?_
    obtain ⟨hok, hw⟩ := hw
    refine q_callIV B h (met_X5_isOff l a0 x1 (x2 + (1 : Int32))) (CB B 2 kC_X5_isOff kI_RX5 kM_RX5_118 hd_X5_isOff ⟨Nat.le_of_ble_eq_true rfl, Nat.le_of_ble_eq_true rfl⟩) kO_X5_isOff kV_X5_isOff (ci := 5) rfl (by decide) hok.1 hok.2 (rest := [.int (gA S1 q1 x2.toNatClampNeg)]) rfl rfl hl.1 (Nat.le_of_ble_eq_true rfl) dX5_nozzle_24 ⟨Nat.le_of_ble_eq_true rfl, Nat.le_of_ble_eq_true rfl⟩ hw (fun r2 S2 H locs hw9 h9 => ?_)
    replace hw := hw9
    clear hw9
    replace h := h9
    clear h9
    refine lv_if_eq (tgt := 45) B.1.1 B.1.2.1 dX5_nozzle_27 (by decide) (fun hc => ?_) (fun hc => ?_)
    · replace hw := hw.1 hc
      refine lv_iconst (v := (0 : Int32)) B.1.1 B.1.2.1 dX5_nozzle_45 (by decide) ?_
      exact J46 a0 x1 x2 (0 : Int32) (gA S1 q1 x2.toNatClampNeg) _ _ _ ls h (lv_sub hl [1, 2, 3] rfl) hw
    · replace hw := hw.2 hc
      refine lv_aload_n B.1.1 B.1.2.1 dX5_nozzle_30 rfl (lv_at hl 1 rfl) ?_
      obtain ⟨hok, hw⟩ := hw
      refine q_getR B h (ci := 5) (j := 18) (code := 178) rfl inT_5 (by decide) kF_RX5_59 rfl rfl rfl (by decide) dX5_nozzle_31 hok.1 hok.2 ?_
      obtain ⟨o5, hoo5⟩ : ∃ z, z = gR S2 178 a0 := ⟨_, rfl⟩
      rw [← hoo5]
      replace hw := hw o5 hoo5
      refine lv_iload_n B.1.1 B.1.2.1 dX5_nozzle_34 rfl (lv_at hl 3 rfl) ?_
      refine lv_iconst (v := (1 : Int32)) B.1.1 B.1.2.1 dX5_nozzle_35 (by decide) ?_
      refine lv_iadd B.1.1 B.1.2.1 dX5_nozzle_36 ?_
      obtain ⟨q5, hn, hw⟩ := hw
      subst hn
      replace hl : lv_has ls 4 [(3, .int (gA S1 q1 x2.toNatClampNeg)), (0, .ref a0), (1, .int x1), (2, .int x2)] := hl
      obtain ⟨hok, hin9, hw⟩ := hw
      refine q_iald B h dX5_nozzle_37 hok.1 hok.2 hin9 ?_
      refine lv_iconst (v := (1 : Int32)) B.1.1 B.1.2.1 dX5_nozzle_38 (by decide) ?_
      refine lv_iadd B.1.1 B.1.2.1 dX5_nozzle_39 ?_
      refine lv_iconst (v := (2 : Int32)) B.1.1 B.1.2.1 dX5_nozzle_40 (by decide) ?_
      refine lv_idiv B.1.1 B.1.2.1 dX5_nozzle_41 (by decide) ?_
      refine lv_goto (tgt := 46) B.1.1 B.1.2.1 dX5_nozzle_42 (by decide) ?_
      exact J46 a0 x1 x2 (((gA S2 q5 (x2 + (1 : Int32)).toNatClampNeg) + (1 : Int32)) / (2 : Int32)) (gA S1 q1 x2.toNatClampNeg) _ _ _ ls h (lv_sub hl [1, 2, 3] rfl) hw
  · replace hw := hw.2 hc
    refine lv_iconst (v := (0 : Int32)) B.1.1 B.1.2.1 dX5_nozzle_9 (by decide) ?_
    exact q_iret B hr hlk h hw dX5_nozzle_10 (Nat.le_of_ble_eq_true rfl) (Nat.le_of_ble_eq_true rfl)
set_option maxHeartbeats 4000000 in
set_option maxRecDepth 100000 in
theorem met_X5_isPrinting (l : Launch) (a0 : Nat) (x1 : Int32) : MI l yX5_isPrinting cX5_isPrinting 4 (some .boolean) 0 0 0 0 [.ref a0, .int x1] (wX5_isPrinting a0 x1) := by
  refine MI.of (by decide) (Nat.le_of_ble_eq_true rfl) ?_
  intro p e s m below meth c D cs lo S Q ls B hr hlk hin
  have L4 : ∀ (c0 : Nat) (c1 : Int32) (K : Int32 → Int32 → HS → Prop) (n : Nat) (m2 : Int32) (m3 : Int32) (S : HS) (H : Heap) (locs : List Loc) (ls : Array Slot), Hx D cs lo s S H locs → lv_has ls 4 [(0, .ref c0), (1, .int c1), (2, .int m2), (3, .int m3)] → wX5_isPrinting_L4 c0 c1 n m2 m3 S K → (∀ (m2 : Int32) (m3 : Int32) (S : HS) (H : Heap) (locs : List Loc) (ls : Array Slot), Hx D cs lo s S H locs → lv_has ls 4 [(0, .ref c0), (1, .int c1), (2, .int m2), (3, .int m3)] → K m2 m3 S → W p l e ({ frames := 0, cells := 0, slots := 0, locals := 0 } : Room) s m [.ref a0, .int x1].toArray below meth c H locs 0 0 (MQ below (va_Qi Q (fun S' t => hp D cs lo S' t.heap) (fun q => lo ≤ q)) [.ref a0, .int x1].toArray s 0 0 (fun q => lo ≤ q)) (F0 m 35 ls [])) → W p l e ({ frames := 0, cells := 0, slots := 0, locals := 0 } : Room) s m [.ref a0, .int x1].toArray below meth c H locs 0 0 (MQ below (va_Qi Q (fun S' t => hp D cs lo S' t.heap) (fun q => lo ≤ q)) [.ref a0, .int x1].toArray s 0 0 (fun q => lo ≤ q)) (F0 m 4 ls []) := by
    intro c0 c1 K n
    induction n with
    | zero => intro m2 m3 S H locs ls h hl hw hk; exact False.elim hw
    | succ n ih =>
      intro m2 m3 S H locs ls h hl hw hk
      refine lv_iload_n B.1.1 B.1.2.1 dX5_isPrinting_4 rfl (lv_at hl 3 rfl) ?_
      refine lv_iconst (v := (3 : Int32)) B.1.1 B.1.2.1 dX5_isPrinting_5 (by decide) ?_
      refine lv_icmp_ge (tgt := 35) B.1.1 B.1.2.1 dX5_isPrinting_6 (by decide) (fun hc => ?_) (fun hc => ?_)
      · replace hw := hw.1 hc
        exact hk m2 m3 _ _ _ ls h (lv_sub hl [0, 1, 2, 3] rfl) hw
      · replace hw := hw.2 hc
        refine lv_iload_n B.1.1 B.1.2.1 dX5_isPrinting_9 rfl (lv_at hl 2 rfl) ?_
        refine lv_if_ne (tgt := 23) B.1.1 B.1.2.1 dX5_isPrinting_10 (by decide) (fun hc => ?_) (fun hc => ?_)
        · replace hw := hw.1 hc
          refine lv_iconst (v := (1 : Int32)) B.1.1 B.1.2.1 dX5_isPrinting_23 (by decide) ?_
          refine lv_goto (tgt := 28) B.1.1 B.1.2.1 dX5_isPrinting_24 (by decide) ?_
          refine lv_istore_n (i := 2) (lv' := [(2, .int (1 : Int32)), (0, .ref c0), (1, .int c1), (3, .int m3)]) B.1.1 B.1.2.1 dX5_isPrinting_28 rfl hl (by decide) rfl (fun ls hl9 => ?_)
          replace hl := hl9
          clear hl9
          refine lv_iinc (i := 3) (v := (m3 + (1 : Int32))) (lv' := [(3, .int (m3 + (1 : Int32))), (2, .int (1 : Int32)), (0, .ref c0), (1, .int c1)]) B.1.1 B.1.2.1 dX5_isPrinting_29 hl (k := 3) rfl rfl (by decide) rfl (fun ls hl9 => ?_)
          replace hl := hl9
          clear hl9
          refine lv_goto (tgt := 4) B.1.1 B.1.2.1 dX5_isPrinting_32 (by decide) ?_
          exact ih (1 : Int32) (m3 + (1 : Int32)) _ _ _ ls h (lv_sub hl [2, 3, 1, 0] rfl) hw hk
        · replace hw := hw.2 hc
          refine lv_aload_n B.1.1 B.1.2.1 dX5_isPrinting_13 rfl (lv_at hl 0 rfl) ?_
          obtain ⟨hok, hw⟩ := hw
          refine q_getR B h (ci := 5) (j := 16) (code := 176) rfl inT_5 (by decide) kF_RX5_53 rfl rfl rfl (by decide) dX5_isPrinting_14 hok.1 hok.2 ?_
          obtain ⟨o1, hoo1⟩ : ∃ z, z = gR S 176 c0 := ⟨_, rfl⟩
          rw [← hoo1]
          replace hw := hw o1 hoo1
          refine lv_iload_n B.1.1 B.1.2.1 dX5_isPrinting_17 rfl (lv_at hl 3 rfl) ?_
          obtain ⟨q1, hn, hw⟩ := hw
          subst hn
          replace hl : lv_has ls 4 [(0, .ref c0), (1, .int c1), (2, .int m2), (3, .int m3)] := hl
          obtain ⟨hok, hin9, hw⟩ := hw
          refine q_iald B h dX5_isPrinting_18 hok.1 hok.2 hin9 ?_
          refine lv_iload_n B.1.1 B.1.2.1 dX5_isPrinting_19 rfl (lv_at hl 1 rfl) ?_
          refine lv_icmp_ne (tgt := 27) B.1.1 B.1.2.1 dX5_isPrinting_20 (by decide) (fun hc => ?_) (fun hc => ?_)
          · replace hw := hw.1 hc
            refine lv_iconst (v := (0 : Int32)) B.1.1 B.1.2.1 dX5_isPrinting_27 (by decide) ?_
            refine lv_istore_n (i := 2) (lv' := [(2, .int (0 : Int32)), (0, .ref c0), (1, .int c1), (3, .int m3)]) B.1.1 B.1.2.1 dX5_isPrinting_28 rfl hl (by decide) rfl (fun ls hl9 => ?_)
            replace hl := hl9
            clear hl9
            refine lv_iinc (i := 3) (v := (m3 + (1 : Int32))) (lv' := [(3, .int (m3 + (1 : Int32))), (2, .int (0 : Int32)), (0, .ref c0), (1, .int c1)]) B.1.1 B.1.2.1 dX5_isPrinting_29 hl (k := 3) rfl rfl (by decide) rfl (fun ls hl9 => ?_)
            replace hl := hl9
            clear hl9
            refine lv_goto (tgt := 4) B.1.1 B.1.2.1 dX5_isPrinting_32 (by decide) ?_
            exact ih (0 : Int32) (m3 + (1 : Int32)) _ _ _ ls h (lv_sub hl [2, 3, 1, 0] rfl) hw hk
          · replace hw := hw.2 hc
            refine lv_iconst (v := (1 : Int32)) B.1.1 B.1.2.1 dX5_isPrinting_23 (by decide) ?_
            refine lv_goto (tgt := 28) B.1.1 B.1.2.1 dX5_isPrinting_24 (by decide) ?_
            refine lv_istore_n (i := 2) (lv' := [(2, .int (1 : Int32)), (0, .ref c0), (1, .int c1), (3, .int m3)]) B.1.1 B.1.2.1 dX5_isPrinting_28 rfl hl (by decide) rfl (fun ls hl9 => ?_)
            replace hl := hl9
            clear hl9
            refine lv_iinc (i := 3) (v := (m3 + (1 : Int32))) (lv' := [(3, .int (m3 + (1 : Int32))), (2, .int (1 : Int32)), (0, .ref c0), (1, .int c1)]) B.1.1 B.1.2.1 dX5_isPrinting_29 hl (k := 3) rfl rfl (by decide) rfl (fun ls hl9 => ?_)
            replace hl := hl9
            clear hl9
            refine lv_goto (tgt := 4) B.1.1 B.1.2.1 dX5_isPrinting_32 (by decide) ?_
            exact ih (1 : Int32) (m3 + (1 : Int32)) _ _ _ ls h (lv_sub hl [2, 3, 1, 0] rfl) hw hk
  intro h hl hw
  replace hl : lv_has ls 4 [(0, .ref a0), (1, .int x1)] := hl
  refine lv_iconst (v := (0 : Int32)) B.1.1 B.1.2.1 dX5_isPrinting_0 (by decide) ?_
  refine lv_istore_n (i := 2) (lv' := [(2, .int (0 : Int32)), (0, .ref a0), (1, .int x1)]) B.1.1 B.1.2.1 dX5_isPrinting_1 rfl hl (by decide) rfl (fun ls hl9 => ?_)
  replace hl := hl9
  clear hl9
  refine lv_iconst (v := (0 : Int32)) B.1.1 B.1.2.1 dX5_isPrinting_2 (by decide) ?_
  refine lv_istore_n (i := 3) (lv' := [(3, .int (0 : Int32)), (2, .int (0 : Int32)), (0, .ref a0), (1, .int x1)]) B.1.1 B.1.2.1 dX5_isPrinting_3 rfl hl (by decide) rfl (fun ls hl9 => ?_)
  replace hl := hl9
  clear hl9
  obtain ⟨n1, hw⟩ := hw
  refine L4 a0 x1 _ n1 (0 : Int32) (0 : Int32) _ _ _ ls h (lv_sub hl [2, 3, 1, 0] rfl) hw (fun u1 u2 S1 H locs ls h9 hl9 hw9 => ?_)
  replace hw := hw9
  clear hw9
  replace h := h9
  clear h9
  replace hl := hl9
  clear hl9
  refine lv_iload_n B.1.1 B.1.2.1 dX5_isPrinting_35 rfl (lv_at hl 2 rfl) ?_
  exact q_zret B hr hlk h hw.1 hw.2 dX5_isPrinting_36 (Nat.le_of_ble_eq_true rfl) (Nat.le_of_ble_eq_true rfl)
set_option maxHeartbeats 4000000 in
set_option maxRecDepth 100000 in
theorem met_X5_takes (l : Launch) (a0 : Nat) (x1 : Int32) : MV l yX5_takes cX5_takes 5 none 2 45 0 0 [.ref a0, .int x1] (wX5_takes a0 x1) := by
  refine MV.of (by decide) (Nat.le_of_ble_eq_true rfl) ?_
  intro p e s m below meth c D cs lo S Q ls B hr hlk hin
  have L4 : ∀ (c0 : Nat) (c1 : Int32) (K : Int32 → Int32 → HS → Prop) (n : Nat) (m2 : Int32) (m3 : Int32) (S : HS) (H : Heap) (locs : List Loc) (ls : Array Slot), Hx D cs lo s S H locs → lv_has ls 5 [(0, .ref c0), (1, .int c1), (2, .int m2), (3, .int m3)] → wX5_takes_L4 c0 c1 n m2 m3 S K → (∀ (m2 : Int32) (m3 : Int32) (S : HS) (H : Heap) (locs : List Loc) (ls : Array Slot), Hx D cs lo s S H locs → lv_has ls 5 [(0, .ref c0), (1, .int c1), (2, .int m2), (3, .int m3)] → K m2 m3 S → W p l e ({ frames := 2, cells := 0, slots := 0, locals := 45 } : Room) s m [.ref a0, .int x1].toArray below meth c H locs 0 0 (MQ below (va_Qv Q (fun S' t => hp D cs lo S' t.heap) (fun q => lo ≤ q)) [.ref a0, .int x1].toArray s 0 0 (fun q => lo ≤ q)) (F0 m 70 ls [])) → W p l e ({ frames := 2, cells := 0, slots := 0, locals := 45 } : Room) s m [.ref a0, .int x1].toArray below meth c H locs 0 0 (MQ below (va_Qv Q (fun S' t => hp D cs lo S' t.heap) (fun q => lo ≤ q)) [.ref a0, .int x1].toArray s 0 0 (fun q => lo ≤ q)) (F0 m 4 ls []) := by
    intro c0 c1 K n
    induction n with
    | zero => intro m2 m3 S H locs ls h hl hw hk; exact False.elim hw
    | succ n ih =>
      intro m2 m3 S H locs ls h hl hw hk
      refine lv_iload_n B.1.1 B.1.2.1 dX5_takes_4 rfl (lv_at hl 3 rfl) ?_
      refine lv_bipush (v := (80 : Int32)) B.1.1 B.1.2.1 dX5_takes_5 (by decide) ?_
      refine lv_icmp_ge (tgt := 70) B.1.1 B.1.2.1 dX5_takes_7 (by decide) (fun hc => ?_) (fun hc => ?_)
      · replace hw := hw.1 hc
        exact hk m2 m3 _ _ _ ls h (lv_sub hl [0, 1, 2, 3] rfl) hw
      · replace hw := hw.2 hc
        refine lv_aload_n B.1.1 B.1.2.1 dX5_takes_10 rfl (lv_at hl 0 rfl) ?_
        obtain ⟨hok, hw⟩ := hw
        refine q_getR B h (ci := 5) (j := 9) (code := 169) rfl inT_5 (by decide) kF_RX5_31 rfl rfl rfl (by decide) dX5_takes_11 hok.1 hok.2 ?_
        obtain ⟨o1, hoo1⟩ : ∃ z, z = gR S 169 c0 := ⟨_, rfl⟩
        rw [← hoo1]
        replace hw := hw o1 hoo1
        refine lv_iload_n B.1.1 B.1.2.1 dX5_takes_14 rfl (lv_at hl 3 rfl) ?_
        obtain ⟨q1, hn, hw⟩ := hw
        subst hn
        replace hl : lv_has ls 5 [(0, .ref c0), (1, .int c1), (2, .int m2), (3, .int m3)] := hl
        obtain ⟨hok, hin9, hw⟩ := hw
        refine q_iald B h dX5_takes_15 hok.1 hok.2 hin9 ?_
        refine lv_iload_n B.1.1 B.1.2.1 dX5_takes_16 rfl (lv_at hl 1 rfl) ?_
        refine lv_icmp_ne (tgt := 50) B.1.1 B.1.2.1 dX5_takes_17 (by decide) (fun hc => ?_) (fun hc => ?_)
        · replace hw := hw.1 hc
          refine lv_iconst (v := (0 : Int32)) B.1.1 B.1.2.1 dX5_takes_50 (by decide) ?_
          refine lv_istore (i := 4) (lv' := [(4, .int (0 : Int32)), (0, .ref c0), (1, .int c1), (2, .int m2), (3, .int m3)]) B.1.1 B.1.2.1 dX5_takes_51 hl (by decide) rfl (fun ls hl9 => ?_)
          replace hl := hl9
          clear hl9
          refine lv_iload B.1.1 B.1.2.1 dX5_takes_53 (lv_at hl 0 rfl) ?_
          refine lv_if_eq (tgt := 62) B.1.1 B.1.2.1 dX5_takes_55 (by decide) (fun _ => ?_) (fun hc => absurd hc (by decide))
          refine lv_iload_n B.1.1 B.1.2.1 dX5_takes_62 rfl (lv_at hl 3 rfl) ?_
          refine lv_istore_n (i := 2) (lv' := [(2, .int m2), (4, .int (0 : Int32)), (0, .ref c0), (1, .int c1), (3, .int m3)]) B.1.1 B.1.2.1 dX5_takes_63 rfl hl (by decide) rfl (fun ls hl9 => ?_)
          replace hl := hl9
          clear hl9
          refine lv_iinc (i := 3) (v := (m3 + (1 : Int32))) (lv' := [(3, .int (m3 + (1 : Int32))), (2, .int m2), (4, .int (0 : Int32)), (0, .ref c0), (1, .int c1)]) B.1.1 B.1.2.1 dX5_takes_64 hl (k := 4) rfl rfl (by decide) rfl (fun ls hl9 => ?_)
          replace hl := hl9
          clear hl9
          refine lv_goto (tgt := 4) B.1.1 B.1.2.1 dX5_takes_67 (by decide) ?_
          exact ih m2 (m3 + (1 : Int32)) _ _ _ ls h (lv_sub hl [3, 4, 1, 0] rfl) hw hk
        · replace hw := hw.2 hc
          refine lv_iload_n B.1.1 B.1.2.1 dX5_takes_20 rfl (lv_at hl 2 rfl) ?_
          refine lv_iconst (v := (-1 : Int32)) B.1.1 B.1.2.1 dX5_takes_21 (by decide) ?_
          refine lv_icmp_eq (tgt := 46) B.1.1 B.1.2.1 dX5_takes_22 (by decide) (fun hc => ?_) (fun hc => ?_)
          · replace hw := hw.1 hc
            refine lv_iconst (v := (1 : Int32)) B.1.1 B.1.2.1 dX5_takes_46 (by decide) ?_
            refine lv_goto (tgt := 51) B.1.1 B.1.2.1 dX5_takes_47 (by decide) ?_
            refine lv_istore (i := 4) (lv' := [(4, .int (1 : Int32)), (0, .ref c0), (1, .int c1), (2, .int m2), (3, .int m3)]) B.1.1 B.1.2.1 dX5_takes_51 hl (by decide) rfl (fun ls hl9 => ?_)
            replace hl := hl9
            clear hl9
            refine lv_iload B.1.1 B.1.2.1 dX5_takes_53 (lv_at hl 0 rfl) ?_
            refine lv_if_eq (tgt := 62) B.1.1 B.1.2.1 dX5_takes_55 (by decide) (fun hc => absurd hc (by decide)) (fun _ => ?_)
            refine lv_iload_n B.1.1 B.1.2.1 dX5_takes_58 rfl (lv_at hl 4 rfl) ?_
            refine lv_goto (tgt := 63) B.1.1 B.1.2.1 dX5_takes_59 (by decide) ?_
            refine lv_istore_n (i := 2) (lv' := [(2, .int m3), (4, .int (1 : Int32)), (0, .ref c0), (1, .int c1), (3, .int m3)]) B.1.1 B.1.2.1 dX5_takes_63 rfl hl (by decide) rfl (fun ls hl9 => ?_)
            replace hl := hl9
            clear hl9
            refine lv_iinc (i := 3) (v := (m3 + (1 : Int32))) (lv' := [(3, .int (m3 + (1 : Int32))), (2, .int m3), (4, .int (1 : Int32)), (0, .ref c0), (1, .int c1)]) B.1.1 B.1.2.1 dX5_takes_64 hl (k := 4) rfl rfl (by decide) rfl (fun ls hl9 => ?_)
            replace hl := hl9
            clear hl9
            refine lv_goto (tgt := 4) B.1.1 B.1.2.1 dX5_takes_67 (by decide) ?_
            exact ih m3 (m3 + (1 : Int32)) _ _ _ ls h (lv_sub hl [3, 4, 1, 0] rfl) hw hk
          · replace hw := hw.2 hc
            refine lv_aload_n B.1.1 B.1.2.1 dX5_takes_25 rfl (lv_at hl 0 rfl) ?_
            obtain ⟨hok, hw⟩ := hw
            refine q_getR B h (ci := 5) (j := 6) (code := 166) rfl inT_5 (by decide) kF_RX5_22 rfl rfl rfl (by decide) dX5_takes_26 hok.1 hok.2 ?_
            obtain ⟨o2, hoo2⟩ : ∃ z, z = gR S 166 c0 := ⟨_, rfl⟩
            rw [← hoo2]
            replace hw := hw o2 hoo2
            refine lv_iload_n B.1.1 B.1.2.1 dX5_takes_29 rfl (lv_at hl 3 rfl) ?_
            refine lv_bipush (v := (16 : Int32)) B.1.1 B.1.2.1 dX5_takes_30 (by decide) ?_
            refine lv_idiv B.1.1 B.1.2.1 dX5_takes_32 (by decide) ?_
            obtain ⟨q2, hn, hw⟩ := hw
            subst hn
            replace hl : lv_has ls 5 [(0, .ref c0), (1, .int c1), (2, .int m2), (3, .int m3)] := hl
            obtain ⟨hok, hin9, hw⟩ := hw
            refine q_iald B h dX5_takes_33 hok.1 hok.2 hin9 ?_
            refine lv_aload_n B.1.1 B.1.2.1 dX5_takes_34 rfl (lv_at hl 0 rfl) ?_
            obtain ⟨hok, hw⟩ := hw
            refine q_getR B h (ci := 5) (j := 6) (code := 166) rfl inT_5 (by decide) kF_RX5_22 rfl rfl rfl (by decide) dX5_takes_35 hok.1 hok.2 ?_
            obtain ⟨o3, hoo3⟩ : ∃ z, z = gR S 166 c0 := ⟨_, rfl⟩
            rw [← hoo3]
            replace hw := hw o3 hoo3
            refine lv_iload_n B.1.1 B.1.2.1 dX5_takes_38 rfl (lv_at hl 2 rfl) ?_
            refine lv_bipush (v := (16 : Int32)) B.1.1 B.1.2.1 dX5_takes_39 (by decide) ?_
            refine lv_idiv B.1.1 B.1.2.1 dX5_takes_41 (by decide) ?_
            obtain ⟨q3, hn, hw⟩ := hw
            subst hn
            replace hl : lv_has ls 5 [(0, .ref c0), (1, .int c1), (2, .int m2), (3, .int m3)] := hl
            obtain ⟨hok, hin9, hw⟩ := hw
            refine q_iald B h dX5_takes_42 hok.1 hok.2 hin9 ?_
            refine lv_icmp_ge (tgt := 50) B.1.1 B.1.2.1 dX5_takes_43 (by decide) (fun hc => ?_) (fun hc => ?_)
            · replace hw := hw.1 hc
              refine lv_iconst (v := (0 : Int32)) B.1.1 B.1.2.1 dX5_takes_50 (by decide) ?_
              refine lv_istore (i := 4) (lv' := [(4, .int (0 : Int32)), (0, .ref c0), (1, .int c1), (2, .int m2), (3, .int m3)]) B.1.1 B.1.2.1 dX5_takes_51 hl (by decide) rfl (fun ls hl9 => ?_)
              replace hl := hl9
              clear hl9
              refine lv_iload B.1.1 B.1.2.1 dX5_takes_53 (lv_at hl 0 rfl) ?_
              refine lv_if_eq (tgt := 62) B.1.1 B.1.2.1 dX5_takes_55 (by decide) (fun _ => ?_) (fun hc => absurd hc (by decide))
              refine lv_iload_n B.1.1 B.1.2.1 dX5_takes_62 rfl (lv_at hl 3 rfl) ?_
              refine lv_istore_n (i := 2) (lv' := [(2, .int m2), (4, .int (0 : Int32)), (0, .ref c0), (1, .int c1), (3, .int m3)]) B.1.1 B.1.2.1 dX5_takes_63 rfl hl (by decide) rfl (fun ls hl9 => ?_)
              replace hl := hl9
              clear hl9
              refine lv_iinc (i := 3) (v := (m3 + (1 : Int32))) (lv' := [(3, .int (m3 + (1 : Int32))), (2, .int m2), (4, .int (0 : Int32)), (0, .ref c0), (1, .int c1)]) B.1.1 B.1.2.1 dX5_takes_64 hl (k := 4) rfl rfl (by decide) rfl (fun ls hl9 => ?_)
              replace hl := hl9
              clear hl9
              refine lv_goto (tgt := 4) B.1.1 B.1.2.1 dX5_takes_67 (by decide) ?_
              exact ih m2 (m3 + (1 : Int32)) _ _ _ ls h (lv_sub hl [3, 4, 1, 0] rfl) hw hk
            · replace hw := hw.2 hc
              refine lv_iconst (v := (1 : Int32)) B.1.1 B.1.2.1 dX5_takes_46 (by decide) ?_
              refine lv_goto (tgt := 51) B.1.1 B.1.2.1 dX5_takes_47 (by decide) ?_
              refine lv_istore (i := 4) (lv' := [(4, .int (1 : Int32)), (0, .ref c0), (1, .int c1), (2, .int m2), (3, .int m3)]) B.1.1 B.1.2.1 dX5_takes_51 hl (by decide) rfl (fun ls hl9 => ?_)
              replace hl := hl9
              clear hl9
              refine lv_iload B.1.1 B.1.2.1 dX5_takes_53 (lv_at hl 0 rfl) ?_
              refine lv_if_eq (tgt := 62) B.1.1 B.1.2.1 dX5_takes_55 (by decide) (fun hc => absurd hc (by decide)) (fun _ => ?_)
              refine lv_iload_n B.1.1 B.1.2.1 dX5_takes_58 rfl (lv_at hl 4 rfl) ?_
              refine lv_goto (tgt := 63) B.1.1 B.1.2.1 dX5_takes_59 (by decide) ?_
              refine lv_istore_n (i := 2) (lv' := [(2, .int m3), (4, .int (1 : Int32)), (0, .ref c0), (1, .int c1), (3, .int m3)]) B.1.1 B.1.2.1 dX5_takes_63 rfl hl (by decide) rfl (fun ls hl9 => ?_)
              replace hl := hl9
              clear hl9
              refine lv_iinc (i := 3) (v := (m3 + (1 : Int32))) (lv' := [(3, .int (m3 + (1 : Int32))), (2, .int m3), (4, .int (1 : Int32)), (0, .ref c0), (1, .int c1)]) B.1.1 B.1.2.1 dX5_takes_64 hl (k := 4) rfl rfl (by decide) rfl (fun ls hl9 => ?_)
              replace hl := hl9
              clear hl9
              refine lv_goto (tgt := 4) B.1.1 B.1.2.1 dX5_takes_67 (by decide) ?_
              exact ih m3 (m3 + (1 : Int32)) _ _ _ ls h (lv_sub hl [3, 4, 1, 0] rfl) hw hk
  intro h hl hw
  replace hl : lv_has ls 5 [(0, .ref a0), (1, .int x1)] := hl
  refine lv_iconst (v := (-1 : Int32)) B.1.1 B.1.2.1 dX5_takes_0 (by decide) ?_
  refine lv_istore_n (i := 2) (lv' := [(2, .int (-1 : Int32)), (0, .ref a0), (1, .int x1)]) B.1.1 B.1.2.1 dX5_takes_1 rfl hl (by decide) rfl (fun ls hl9 => ?_)
  replace hl := hl9
  clear hl9
  refine lv_iconst (v := (0 : Int32)) B.1.1 B.1.2.1 dX5_takes_2 (by decide) ?_
  refine lv_istore_n (i := 3) (lv' := [(3, .int (0 : Int32)), (2, .int (-1 : Int32)), (0, .ref a0), (1, .int x1)]) B.1.1 B.1.2.1 dX5_takes_3 rfl hl (by decide) rfl (fun ls hl9 => ?_)
  replace hl := hl9
  clear hl9
  obtain ⟨n1, hw⟩ := hw
  refine L4 a0 x1 _ n1 (-1 : Int32) (0 : Int32) _ _ _ ls h (lv_sub hl [2, 3, 1, 0] rfl) hw (fun u1 u2 S1 H locs ls h9 hl9 hw9 => ?_)
  replace hw := hw9
  clear hw9
  replace h := h9
  clear h9
  replace hl := hl9
  clear hl9
  refine lv_iload_n B.1.1 B.1.2.1 dX5_takes_70 rfl (lv_at hl 2 rfl) ?_
  refine lv_iconst (v := (-1 : Int32)) B.1.1 B.1.2.1 dX5_takes_71 (by decide) ?_
  refine lv_icmp_eq (tgt := 120) B.1.1 B.1.2.1 dX5_takes_72 (by decide) (fun hc => ?_) (fun hc => ?_)
  · replace hw := hw.1 hc
    exact q_vret B hr hlk h hw dX5_takes_120 (Nat.le_of_ble_eq_true rfl) (Nat.le_of_ble_eq_true rfl)
  · replace hw := hw.2 hc
    refine lv_aload_n B.1.1 B.1.2.1 dX5_takes_75 rfl (lv_at hl 0 rfl) ?_
    obtain ⟨hok, hw⟩ := hw
    refine q_getR B h (ci := 5) (j := 9) (code := 169) rfl inT_5 (by decide) kF_RX5_31 rfl rfl rfl (by decide) dX5_takes_76 hok.1 hok.2 ?_
    obtain ⟨o4, hoo4⟩ : ∃ z, z = gR S1 169 a0 := ⟨_, rfl⟩
    rw [← hoo4]
    replace hw := hw o4 hoo4
    refine lv_iload_n B.1.1 B.1.2.1 dX5_takes_79 rfl (lv_at hl 2 rfl) ?_
    refine lv_iconst (v := (-1 : Int32)) B.1.1 B.1.2.1 dX5_takes_80 (by decide) ?_
    obtain ⟨q4, hn, hw⟩ := hw
    subst hn
    replace hl : lv_has ls 5 [(0, .ref a0), (1, .int x1), (2, .int u1), (3, .int u2)] := hl
    obtain ⟨hok, hin9, hw⟩ := hw
    refine q_iast B h dX5_takes_81 hok.1 hok.2 hin9 (fun H locs h9 => ?_)
    obtain ⟨S2, hS2, hh⟩ : ∃ z, z = sA S1 q4 u1.toNatClampNeg (-1 : Int32) ∧ Hx D cs lo s z H locs := ⟨_, rfl, h9⟩
    clear h9
    replace h := hh
    clear hh
    replace hw := hw S2 hS2
    refine lv_aload_n B.1.1 B.1.2.1 dX5_takes_82 rfl (lv_at hl 0 rfl) ?_
    obtain ⟨hok, hw⟩ := hw
    refine q_getR B h (ci := 5) (j := 16) (code := 176) rfl inT_5 (by decide) kF_RX5_53 rfl rfl rfl (by decide) dX5_takes_83 hok.1 hok.2 ?_
    obtain ⟨o5, hoo5⟩ : ∃ z, z = gR S2 176 a0 := ⟨_, rfl⟩
    rw [← hoo5]
    replace hw := hw o5 hoo5
    refine lv_iload_n B.1.1 B.1.2.1 dX5_takes_86 rfl (lv_at hl 1 rfl) ?_
    refine lv_iload_n B.1.1 B.1.2.1 dX5_takes_87 rfl (lv_at hl 2 rfl) ?_
    obtain ⟨q5, hn, hw⟩ := hw
    subst hn
    replace hl : lv_has ls 5 [(0, .ref a0), (1, .int x1), (2, .int u1), (3, .int u2)] := hl
    obtain ⟨hok, hin9, hw⟩ := hw
    refine q_iast B h dX5_takes_88 hok.1 hok.2 hin9 (fun H locs h9 => ?_)
    obtain ⟨S3, hS3, hh⟩ : ∃ z, z = sA S2 q5 x1.toNatClampNeg u1 ∧ Hx D cs lo s z H locs := ⟨_, rfl, h9⟩
    clear h9
    replace h := hh
    clear hh
    replace hw := hw S3 hS3
    refine lv_aload_n B.1.1 B.1.2.1 dX5_takes_89 rfl (lv_at hl 0 rfl) ?_
    obtain ⟨hok, hw⟩ := hw
    refine q_getR B h (ci := 5) (j := 17) (code := 177) rfl inT_5 (by decide) kF_RX5_56 rfl rfl rfl (by decide) dX5_takes_90 hok.1 hok.2 ?_
    obtain ⟨o6, hoo6⟩ : ∃ z, z = gR S3 177 a0 := ⟨_, rfl⟩
    rw [← hoo6]
    replace hw := hw o6 hoo6
    refine lv_iload_n B.1.1 B.1.2.1 dX5_takes_93 rfl (lv_at hl 1 rfl) ?_
    refine lv_aload_n B.1.1 B.1.2.1 dX5_takes_94 rfl (lv_at hl 0 rfl) ?_
    refine lv_iload_n B.1.1 B.1.2.1 dX5_takes_95 rfl (lv_at hl 2 rfl) ?_
    refine lv_bipush (v := (16 : Int32)) B.1.1 B.1.2.1 dX5_takes_96 (by decide) ?_
    refine lv_idiv B.1.1 B.1.2.1 dX5_takes_98 (by decide) ?_
    refine lv_iload_n B.1.1 B.1.2.1 dX5_takes_99 rfl (lv_at hl 2 rfl) ?_
    refine lv_bipush (v := (16 : Int32)) B.1.1 B.1.2.1 dX5_takes_100 (by decide) ?_
    refine lv_irem B.1.1 B.1.2.1 dX5_takes_102 (by decide) ?_
    obtain ⟨hok, hw⟩ := hw
    refine q_callIV B h (met_X5_end l a0 (u1 / (16 : Int32)) (u1 - u1 / (16 : Int32) * (16 : Int32))) (CB B 2 kC_X5_end kI_RX5 kM_RX5_88 hd_X5_end ⟨Nat.le_of_ble_eq_true rfl, Nat.le_of_ble_eq_true rfl⟩) kO_X5_end kV_X5_end (ci := 5) rfl (by decide) hok.1 hok.2 (rest := [.int x1, va_rf o6]) rfl rfl hl.1 (by simp [rf_cat, cat_i, cat_r, cat_n, cat_j, cat_f, cat_d]) dX5_takes_103 ⟨Nat.le_of_ble_eq_true rfl, Nat.le_of_ble_eq_true rfl⟩ hw (fun r1 S4 H locs hw9 h9 => ?_)
    replace hw := hw9
    clear hw9
    replace h := h9
    clear h9
    refine lv_aload_n B.1.1 B.1.2.1 dX5_takes_106 rfl (lv_at hl 0 rfl) ?_
    refine lv_iload_n B.1.1 B.1.2.1 dX5_takes_107 rfl (lv_at hl 2 rfl) ?_
    refine lv_bipush (v := (16 : Int32)) B.1.1 B.1.2.1 dX5_takes_108 (by decide) ?_
    refine lv_idiv B.1.1 B.1.2.1 dX5_takes_110 (by decide) ?_
    refine lv_iload_n B.1.1 B.1.2.1 dX5_takes_111 rfl (lv_at hl 2 rfl) ?_
    refine lv_bipush (v := (16 : Int32)) B.1.1 B.1.2.1 dX5_takes_112 (by decide) ?_
    refine lv_irem B.1.1 B.1.2.1 dX5_takes_114 (by decide) ?_
    obtain ⟨hok, hw⟩ := hw
    refine q_callIV B h (met_X5_first l a0 (u1 / (16 : Int32)) (u1 - u1 / (16 : Int32) * (16 : Int32))) (CB B 2 kC_X5_first kI_RX5 kM_RX5_84 hd_X5_first ⟨Nat.le_of_ble_eq_true rfl, Nat.le_of_ble_eq_true rfl⟩) kO_X5_first kV_X5_first (ci := 5) rfl (by decide) hok.1 hok.2 (rest := [.int r1, .int x1, va_rf o6]) rfl rfl hl.1 (by simp [rf_cat, cat_i, cat_r, cat_n, cat_j, cat_f, cat_d]) dX5_takes_115 ⟨Nat.le_of_ble_eq_true rfl, Nat.le_of_ble_eq_true rfl⟩ hw (fun r2 S5 H locs hw9 h9 => ?_)
    replace hw := hw9
    clear hw9
    replace h := h9
    clear h9
    refine lv_isub B.1.1 B.1.2.1 dX5_takes_118 ?_
    obtain ⟨q6, hn, hw⟩ := hw
    subst hn
    replace hl : lv_has ls 5 [(0, .ref a0), (1, .int x1), (2, .int u1), (3, .int u2)] := hl
    obtain ⟨hok, hin9, hw⟩ := hw
    refine q_iast B h dX5_takes_119 hok.1 hok.2 hin9 (fun H locs h9 => ?_)
    obtain ⟨S6, hS6, hh⟩ : ∃ z, z = sA S5 q6 x1.toNatClampNeg (r1 - r2) ∧ Hx D cs lo s z H locs := ⟨_, rfl, h9⟩
    clear h9
    replace h := hh
    clear hh
    replace hw := hw S6 hS6
    exact q_vret B hr hlk h hw dX5_takes_120 (Nat.le_of_ble_eq_true rfl) (Nat.le_of_ble_eq_true rfl)
set_option maxHeartbeats 4000000 in
set_option maxRecDepth 100000 in
theorem met_X5_place (l : Launch) (a0 : Nat) (x1 : Int32) (x2 : Int32) (x3 : Int32) (x4 : Int32) : MI l yX5_place cX5_place 5 (some .int) 1 22 0 0 [.ref a0, .int x1, .int x2, .int x3, .int x4] (wX5_place a0 x1 x2 x3 x4) := by
  refine MI.of (by decide) (Nat.le_of_ble_eq_true rfl) ?_
  intro p e s m below meth c D cs lo S Q ls B hr hlk hin
  intro h hl hw
  replace hl : lv_has ls 5 [(0, .ref a0), (1, .int x1), (2, .int x2), (3, .int x3), (4, .int x4)] := hl
  refine lv_sipush (v := (1280 : Int32)) B.1.1 B.1.2.1 dX5_place_0 (by decide) ?_
  refine lv_iload_n B.1.1 B.1.2.1 dX5_place_3 rfl (lv_at hl 2 rfl) ?_
  refine lv_iconst (v := (2 : Int32)) B.1.1 B.1.2.1 dX5_place_4 (by decide) ?_
  refine lv_irem B.1.1 B.1.2.1 dX5_place_5 (by decide) ?_
  refine lv_imul B.1.1 B.1.2.1 dX5_place_6 ?_
  refine lv_iload_n B.1.1 B.1.2.1 dX5_place_7 rfl (lv_at hl 1 rfl) ?_
  refine lv_iload_n B.1.1 B.1.2.1 dX5_place_8 rfl (lv_at hl 3 rfl) ?_
  refine lv_iload B.1.1 B.1.2.1 dX5_place_9 (lv_at hl 4 rfl) ?_
  refine q_callIS B h (met_X5_dot l x1 x3 x4) (CB B 3 kC_X5_dot kI_RX5 kM_RX5_97 hd_X5_dot ⟨Nat.le_of_ble_eq_true rfl, Nat.le_of_ble_eq_true rfl⟩) kS_X5_dot (rest := [.int ((1280 : Int32) * (x2 - x2 / (2 : Int32) * (2 : Int32)))]) rfl rfl hl.1 (Nat.le_of_ble_eq_true rfl) dX5_place_11 ⟨Nat.le_of_ble_eq_true rfl, Nat.le_of_ble_eq_true rfl⟩ hw (fun r1 S1 H locs hw9 h9 => ?_)
  replace hw := hw9
  clear hw9
  replace h := h9
  clear h9
  refine lv_iadd B.1.1 B.1.2.1 dX5_place_14 ?_
  exact q_iret B hr hlk h hw dX5_place_15 (Nat.le_of_ble_eq_true rfl) (Nat.le_of_ble_eq_true rfl)
end
