/-! methods that throw: QX of the class thrown and of what the heap holds then -/
abbrev xnm : List String := ["java/lang/RuntimeException", "java/lang/Exception"]
def TI (l : Launch) (y : MethodName) (cc : ByteArray) (maxL : Nat) (ret : Option FieldType) (fr lv mc ms : Nat) (As : List Value) (wp : HS → (Int32 → HS → Prop) → (String → HS → Prop) → Prop) : Prop :=
  ∀ (D : va_G) (cs : Nat → ClassId) (lo : Nat) (S : HS) (Q : Int32 → HS → Prop) (QX : String → HS → Prop), vx_Met l y (Cond.code y cc maxL ret :: T0) ({ frames := fr, cells := mc, slots := ms, locals := lv }) (va_Pc As (fun U => Cn D cs lo S U ∧ wp S Q QX)) (va_Qi Q (fun S' t => hp D cs lo S' t.heap) (fun q => lo ≤ q)) (vx_X (fun _ : HS => True) (fun E S' t => QX E S' ∧ hp D cs lo S' t.heap) (fun q => lo ≤ q)) mc ms (fun q => lo ≤ q)
theorem TI.of {l : Launch} {y : MethodName} {cc : ByteArray} {maxL fr lv mc ms : Nat} {ret : Option FieldType} {As : List Value} {wp : HS → (Int32 → HS → Prop) → (String → HS → Prop) → Prop} (hpl : plainName y.cls = true) (hsz : (lg_sl As).length ≤ maxL)
    (body : ∀ (p : Program) (e : Env) (s : State) (m : MethodId) (below : List Frame) (meth : Method) (c : Code) (D : va_G) (cs : Nat → ClassId) (lo : Nat) (S : HS) (Q : Int32 → HS → Prop) (QX : String → HS → Prop) (ls : Array Slot), Bx p m c cc maxL s As.toArray y.cls D cs lo → meth.sig.returnType = ret → meth.locks = false → meth.name = y.name → (∀ x ∈ c.exceptionTable.toList, False) → Hx D cs lo s S s.heap [] → lv_has ls maxL (lv_args 0 As) → wp S Q QX →
      W p l e ({ frames := fr, cells := mc, slots := ms, locals := lv }) s m As.toArray below meth c s.heap [] 0 0 (vx_MQ below (va_Qi Q (fun S' t => hp D cs lo S' t.heap) (fun q => lo ≤ q)) (vx_X (fun _ : HS => True) (fun E S' t => QX E S' ∧ hp D cs lo S' t.heap) (fun q => lo ≤ q)) As.toArray s mc ms (fun q => lo ≤ q)) (F0 m 0 ls [])) : TI l y cc maxL ret fr lv mc ms As wp := by
  intro D cs lo S Q QX
  refine vx_ofW (cc := cc) (maxL := maxL) (ret := ret) hpl rfl ?_
  intro p e s m args below meth c s₁ B hml hxt hv
  obtain ⟨rfl, hC, hw⟩ := hv
  have hts := atoms_spec (ws := Cond.code y cc maxL ret :: T0) B.pre
  have hl := lv_entry As (n := maxL) hsz
  rw [lg_entry_eq]
  generalize (lg_sl As ++ List.replicate (maxL - (lg_sl As).length) Slot.unset).toArray = ls at hl ⊢
  exact body p e s m below meth c D cs lo S Q QX ls ⟨⟨B.exec, B.bytes, hml, findClass_of_methodNamed B.named, fun w h => hts w (List.mem_cons_of_mem _ h)⟩, hC.2.1, hC.2.2.1, hC.2.2.2⟩ B.returns B.notSynchronized (name_of_methodNamed B.named B.method).1 hxt ⟨hC.1, va_S.rf⟩ hl hw
def TF (l : Launch) (y : MethodName) (cc : ByteArray) (maxL : Nat) (ret : Option FieldType) (fr lv mc ms : Nat) (As : List Value) (wp : HS → (UInt32 → HS → Prop) → (String → HS → Prop) → Prop) : Prop :=
  ∀ (D : va_G) (cs : Nat → ClassId) (lo : Nat) (S : HS) (Q : UInt32 → HS → Prop) (QX : String → HS → Prop), vx_Met l y (Cond.code y cc maxL ret :: T0) ({ frames := fr, cells := mc, slots := ms, locals := lv }) (va_Pc As (fun U => Cn D cs lo S U ∧ wp S Q QX)) (va_Qf Q (fun S' t => hp D cs lo S' t.heap) (fun q => lo ≤ q)) (vx_X (fun _ : HS => True) (fun E S' t => QX E S' ∧ hp D cs lo S' t.heap) (fun q => lo ≤ q)) mc ms (fun q => lo ≤ q)
theorem TF.of {l : Launch} {y : MethodName} {cc : ByteArray} {maxL fr lv mc ms : Nat} {ret : Option FieldType} {As : List Value} {wp : HS → (UInt32 → HS → Prop) → (String → HS → Prop) → Prop} (hpl : plainName y.cls = true) (hsz : (lg_sl As).length ≤ maxL)
    (body : ∀ (p : Program) (e : Env) (s : State) (m : MethodId) (below : List Frame) (meth : Method) (c : Code) (D : va_G) (cs : Nat → ClassId) (lo : Nat) (S : HS) (Q : UInt32 → HS → Prop) (QX : String → HS → Prop) (ls : Array Slot), Bx p m c cc maxL s As.toArray y.cls D cs lo → meth.sig.returnType = ret → meth.locks = false → meth.name = y.name → (∀ x ∈ c.exceptionTable.toList, False) → Hx D cs lo s S s.heap [] → lv_has ls maxL (lv_args 0 As) → wp S Q QX →
      W p l e ({ frames := fr, cells := mc, slots := ms, locals := lv }) s m As.toArray below meth c s.heap [] 0 0 (vx_MQ below (va_Qf Q (fun S' t => hp D cs lo S' t.heap) (fun q => lo ≤ q)) (vx_X (fun _ : HS => True) (fun E S' t => QX E S' ∧ hp D cs lo S' t.heap) (fun q => lo ≤ q)) As.toArray s mc ms (fun q => lo ≤ q)) (F0 m 0 ls [])) : TF l y cc maxL ret fr lv mc ms As wp := by
  intro D cs lo S Q QX
  refine vx_ofW (cc := cc) (maxL := maxL) (ret := ret) hpl rfl ?_
  intro p e s m args below meth c s₁ B hml hxt hv
  obtain ⟨rfl, hC, hw⟩ := hv
  have hts := atoms_spec (ws := Cond.code y cc maxL ret :: T0) B.pre
  have hl := lv_entry As (n := maxL) hsz
  rw [lg_entry_eq]
  generalize (lg_sl As ++ List.replicate (maxL - (lg_sl As).length) Slot.unset).toArray = ls at hl ⊢
  exact body p e s m below meth c D cs lo S Q QX ls ⟨⟨B.exec, B.bytes, hml, findClass_of_methodNamed B.named, fun w h => hts w (List.mem_cons_of_mem _ h)⟩, hC.2.1, hC.2.2.1, hC.2.2.2⟩ B.returns B.notSynchronized (name_of_methodNamed B.named B.method).1 hxt ⟨hC.1, va_S.rf⟩ hl hw
/-- a method with a table of its own, which lets nothing out -/
def HI (l : Launch) (y : MethodName) (cc : ByteArray) (maxL : Nat) (ret : Option FieldType) (hh : List (Nat × Nat × Nat × Nat)) (fr lv mc ms : Nat) (As : List Value) (wp : HS → (Int32 → HS → Prop) → Prop) : Prop :=
  ∀ (D : va_G) (cs : Nat → ClassId) (lo : Nat) (S : HS) (Q : Int32 → HS → Prop), Met l y (Cond.codeWith y cc maxL ret hh :: T0) ({ frames := fr, cells := mc, slots := ms, locals := lv }) (va_Pc As (fun U => Cn D cs lo S U ∧ wp S Q)) (va_Qi Q (fun S' t => hp D cs lo S' t.heap) (fun q => lo ≤ q)) mc ms (fun q => lo ≤ q)
theorem HI.of {l : Launch} {y : MethodName} {cc : ByteArray} {maxL fr lv mc ms : Nat} {ret : Option FieldType} {hh : List (Nat × Nat × Nat × Nat)} {As : List Value} {wp : HS → (Int32 → HS → Prop) → Prop} (hpl : plainName y.cls = true) (hsz : (lg_sl As).length ≤ maxL)
    (body : ∀ (p : Program) (e : Env) (s : State) (m : MethodId) (below : List Frame) (meth : Method) (c : Code) (D : va_G) (cs : Nat → ClassId) (lo : Nat) (S : HS) (Q : Int32 → HS → Prop) (ls : Array Slot), Bx p m c cc maxL s As.toArray y.cls D cs lo → meth.sig.returnType = ret → meth.locks = false → meth.name = y.name → c.exceptionTable.toList = tableOf hh → Hx D cs lo s S s.heap [] → lv_has ls maxL (lv_args 0 As) → wp S Q →
      W p l e ({ frames := fr, cells := mc, slots := ms, locals := lv }) s m As.toArray below meth c s.heap [] 0 0 (MQ below (va_Qi Q (fun S' t => hp D cs lo S' t.heap) (fun q => lo ≤ q)) As.toArray s mc ms (fun q => lo ≤ q)) (F0 m 0 ls [])) : HI l y cc maxL ret hh fr lv mc ms As wp := by
  intro D cs lo S Q
  refine va_MetW (cc := cc) (maxL := maxL) (ret := ret) (hh := hh) hpl rfl ?_
  intro p e s m args below meth c s₁ B hml hv
  obtain ⟨rfl, hC, hw⟩ := hv
  have hts := atoms_spec (ws := Cond.codeWith y cc maxL ret hh :: T0) B.pre
  have hl := lv_entry As (n := maxL) hsz
  have htb := vx_table (x := y) (y := y) (bytes := cc) (maxL' := maxL) (ret' := ret) (hh := hh) B (hts (Cond.codeWith y cc maxL ret hh) List.mem_cons_self)
  rw [lg_entry_eq]
  generalize (lg_sl As ++ List.replicate (maxL - (lg_sl As).length) Slot.unset).toArray = ls at hl ⊢
  exact body p e s m below meth c D cs lo S Q ls ⟨⟨B.exec, B.bytes, hml, findClass_of_methodNamed B.named, fun w h => hts w (List.mem_cons_of_mem _ h)⟩, hC.2.1, hC.2.2.1, hC.2.2.2⟩ B.returns B.notSynchronized (name_of_methodNamed B.named B.method).1 htb ⟨hC.1, va_S.rf⟩ hl hw
section EX
variable {p : Program} {l : Launch} {e : Env} {R : Room} {s : State} {m : MethodId} {args : Array Value} {below : List Frame} {meth : Method} {c : Code} {H : Heap} {locs : List Loc} {cells slots : Nat} {Q : State → Prop}
variable {cc : ByteArray} {pc nL lo : Nat} {ls : Array Slot} {rest : List Value} {D : va_G} {cs : Nat → ClassId} {own : String} {S : HS}
theorem hp.kept (h : hp D cs lo S H) {H1 : Heap} (hq : ∀ q : Nat, q < H.size → H1[q]? = H[q]?) : hp D cs lo S H1 :=
  ⟨h.1.kept (fun k q hk => hq _ (h.1 k q hk).lt), h.2⟩
theorem q_throw (B : Bx p m c cc nL s args own D cs lo) (h : Hx D cs lo s S H locs) (hst : l.stackTraces = false) (hxt : ∀ x ∈ c.exceptionTable.toList, False) (hlk : meth.locks = false) (ho : own = RX4) {E text : String} {ik is ic mc ms : Nat} {Qc : Array Value → State → Outcome → State → Prop} {QX : String → HS → Prop}
    (hcls : Bundle.fit E = true) (hk : Cond.classLink RX4 ik E ∈ T0) (hini : Cond.initialized E ∈ T0) (hstr : (is, text) ∈ strX4) (hat : ∀ w ∈ vx_atS RX4 ic E xnm, w ∈ T0) (hgood : ∀ w ∈ Cond.classLink RX4 ik E :: Cond.initialized E :: vx_atS RX4 ic E xnm, vx_ot w = true) (hsz : ls.size = nL)
    (d0 : decode cc pc = .ok (.new ik, 3)) (d3 : decode cc (pc + 3) = .ok (.dup, 1)) (d4 : decode cc (pc + 4) = .ok (.ldc is, 2)) (d6 : decode cc (pc + 6) = .ok (.invokespecial ic, 3)) (d9 : decode cc (pc + 9) = .ok (.athrow, 1))
    (hRf : 5 < R.frames) (hRl : (rest.map fun v => v.category).sum + 82 ≤ R.locals) (hRc : cells + 1 ≤ R.cells) (hRs : slots + 6 ≤ R.slots) (hc : cells + 1 ≤ mc) (hs : slots + 6 ≤ ms) (hw : QX E S) :
    W p l e R s m args below meth c H locs cells slots (vx_MQ below Qc (vx_X (fun _ : HS => True) (fun E S' t => QX E S' ∧ hp D cs lo S' t.heap) (fun q => lo ≤ q)) args s mc ms (fun q => lo ≤ q)) (F0 m pc ls rest) := by
  subst ho
  obtain ⟨sa, hsa⟩ := B.2.2.2.2.2.1 _ hstr
  refine vx_throwS (names := xnm) (own := RX4) (cls := E) (text := text) (sa := sa) (A := fun q => lo ≤ q) B.1.1 B.1.2.1 hst B.1.2.2.2.1 hcls (by decide +kernel) (B.ts hk) (B.ts hini) hsa (fun w hw => B.ts (hat w hw)) hgood B.2.2.2.1 B.2.2.2.2.1 h.2 (hsz.trans B.1.2.2.1.symm) d0 d3 d4 d6 d9 (fun x hx => (hxt x hx).elim) hRf hRl hRc hRs hlk (fun t hvm hz hq => ?_) h.2.2.2 hc hs
  refine ⟨S, trivial, ⟨hw, h.1.kept hq⟩, Nat.le_trans h.2.1 hz, fun q h1 h2 => ?_⟩
  rw [hq q (Nat.lt_of_lt_of_le h1 h.2.1)]
  exact h.2.2.1 q h1 h2
theorem q_callxI (B : Bx p m c cc nL s args own D cs lo) (h : Hx D cs lo s S H locs) {index n ny fr lv mc ms b ci : Nat} {y : MethodName} {cy : ByteArray} {ret : Option FieldType} {As : List Value} {st : List Value} {wp : HS → (Int32 → HS → Prop) → (String → HS → Prop) → Prop} {Qc : Int32 → HS → Prop} {QX : String → HS → Prop} (hM : TI l y cy ny ret fr lv mc ms (.ref b :: As) wp) {q : vw_C} (cb : CallB R s args own index y cy ny ret (Cond.code y cy ny ret :: T0) ({ frames := fr, cells := mc, slots := ms, locals := lv }) mc ms n) (hin : Cond.instanceMethod y ∈ T0) (hsel : Cond.selects q.1 y y ∈ T0) (hc : vwCl[ci]? = some q) (h6 : ci < 6) (hb : b ∈ gL S) (hkb : gK S b = ci) (hst9 : st = As.reverse ++ .ref b :: rest) (hn : As.length = n) (hsz : ls.size = nL) (hW : (rest.map fun v => v.category).sum ≤ 8) (hdg : decode cc pc = .ok (.invokevirtual index, 3)) (hf : cells + mc ≤ R.cells ∧ slots + ms ≤ R.slots) (hw : wp S Qc QX)
    (kx : ∀ (E : String) (ce : Cell) (q9 : Addr) (S1 : HS) (H1 : Heap) (locs1 : List Loc), QX E S1 → Hx D cs lo s S1 H1 locs1 → H1[q9]? = some ce → ce.vm = .none → s.vm.findClass E = some ce.cls → vx_W p l e R s m args below meth c H1 locs1 (cells + mc) (slots + ms) Q (F0 m pc ls rest) q9)
    (kk : ∀ (r : Int32) (S1 : HS) (H1 : Heap) (locs1 : List Loc), Qc r S1 → Hx D cs lo s S1 H1 locs1 → W p l e R s m args below meth c H1 locs1 (cells + mc) (slots + ms) Q (F0 m (pc + 3) ls (.int r :: rest))) : W p l e R s m args below meth c H locs cells slots Q (F0 m pc ls st) := by
  subst hst9
  refine vx_calli (vx_runV (As := As) (rest := rest) B.1 (hM D cs lo S Qc QX) ⟨cb, B.ts hin, B.ts hsel⟩ ⟨fun a U g mk q => ⟨q.1, q.2.1.calling, q.2.2⟩, hp.recv B h.1 hc h6 hb hkb, fun U hU hW => ⟨rfl, h.cn B hU hW, hw⟩⟩ rfl hn hsz rfl (lv_room hW) hdg hf) h.2 (fun _ _ h => h) (fun _ h => h) (fun _ _ h => h) (fun E ce q9 S1 t H1 locs1 ht hvm hpx hbx hz hk hS hce hcv hcl => ?_) (fun r S1 t H1 locs1 ht hvm hq hb hz hk hS => ?_)
  · obtain ⟨hq1, hq2⟩ := hbx
    rw [ht] at hq2
    exact kx E ce q9 S1 H1 locs1 hq1 ⟨hq2, hS⟩ hce hcv hcl
  · try dsimp only at hb
    rw [ht] at hb
    exact kk r S1 H1 locs1 hq ⟨hb, hS⟩
theorem q_callxF (B : Bx p m c cc nL s args own D cs lo) (h : Hx D cs lo s S H locs) {index n ny fr lv mc ms b ci : Nat} {y : MethodName} {cy : ByteArray} {ret : Option FieldType} {As : List Value} {st : List Value} {wp : HS → (UInt32 → HS → Prop) → (String → HS → Prop) → Prop} {Qc : UInt32 → HS → Prop} {QX : String → HS → Prop} (hM : TF l y cy ny ret fr lv mc ms (.ref b :: As) wp) {q : vw_C} (cb : CallB R s args own index y cy ny ret (Cond.code y cy ny ret :: T0) ({ frames := fr, cells := mc, slots := ms, locals := lv }) mc ms n) (hin : Cond.instanceMethod y ∈ T0) (hsel : Cond.selects q.1 y y ∈ T0) (hc : vwCl[ci]? = some q) (h6 : ci < 6) (hb : b ∈ gL S) (hkb : gK S b = ci) (hst9 : st = As.reverse ++ .ref b :: rest) (hn : As.length = n) (hsz : ls.size = nL) (hW : (rest.map fun v => v.category).sum ≤ 8) (hdg : decode cc pc = .ok (.invokevirtual index, 3)) (hf : cells + mc ≤ R.cells ∧ slots + ms ≤ R.slots) (hw : wp S Qc QX)
    (kx : ∀ (E : String) (ce : Cell) (q9 : Addr) (S1 : HS) (H1 : Heap) (locs1 : List Loc), QX E S1 → Hx D cs lo s S1 H1 locs1 → H1[q9]? = some ce → ce.vm = .none → s.vm.findClass E = some ce.cls → vx_W p l e R s m args below meth c H1 locs1 (cells + mc) (slots + ms) Q (F0 m pc ls rest) q9)
    (kk : ∀ (r : UInt32) (S1 : HS) (H1 : Heap) (locs1 : List Loc), Qc r S1 → Hx D cs lo s S1 H1 locs1 → W p l e R s m args below meth c H1 locs1 (cells + mc) (slots + ms) Q (F0 m (pc + 3) ls (.float r :: rest))) : W p l e R s m args below meth c H locs cells slots Q (F0 m pc ls st) := by
  subst hst9
  refine vx_callf (vx_runV (As := As) (rest := rest) B.1 (hM D cs lo S Qc QX) ⟨cb, B.ts hin, B.ts hsel⟩ ⟨fun a U g mk q => ⟨q.1, q.2.1.calling, q.2.2⟩, hp.recv B h.1 hc h6 hb hkb, fun U hU hW => ⟨rfl, h.cn B hU hW, hw⟩⟩ rfl hn hsz rfl (lv_room hW) hdg hf) h.2 (fun _ _ h => h) (fun _ h => h) (fun _ _ h => h) (fun E ce q9 S1 t H1 locs1 ht hvm hpx hbx hz hk hS hce hcv hcl => ?_) (fun r S1 t H1 locs1 ht hvm hq hb hz hk hS => ?_)
  · obtain ⟨hq1, hq2⟩ := hbx
    rw [ht] at hq2
    exact kx E ce q9 S1 H1 locs1 hq1 ⟨hq2, hS⟩ hce hcv hcl
  · try dsimp only at hb
    rw [ht] at hb
    exact kk r S1 H1 locs1 hq ⟨hb, hS⟩
theorem q_catch1 (B : Bx p m c cc nL s args own D cs lo) {E : String} {ce : Cell} {q : Addr} {st en hd ct : Nat} {suf : List (Nat × Nat × Nat × Nat)} (htb : c.exceptionTable.toList = tableOf ((st, en, hd, ct) :: suf)) (hcov : covers ⟨st, en, hd, ct⟩ pc = true) (h0 : ct ≠ 0) (hlink : Cond.classLink own ct E ∈ T0) (hcast : Cond.castable E E ∈ T0) (hcell : H[q]? = some ce) (hv : ce.vm = .none) (hcl : s.vm.findClass E = some ce.cls)
    (kk : W p l e R s m args below meth c H locs cells slots Q (F0 m hd ls [.ref q])) : vx_W p l e R s m args below meth c H locs cells slots Q (F0 m pc ls rest) q :=
  vx_catch B.1.2.2.2.1 [] ⟨st, en, hd, ct⟩ (tableOf suf) htb (fun z hz => absurd hz List.not_mem_nil) hcov h0 (B.ts hlink) (B.ts hcast) hcell hv hcl kk
theorem q_catch2 (B : Bx p m c cc nL s args own D cs lo) {E E1 : String} {ce : Cell} {q : Addr} {st en hd ct st1 en1 hd1 ct1 : Nat} {suf : List (Nat × Nat × Nat × Nat)} (htb : c.exceptionTable.toList = tableOf ((st1, en1, hd1, ct1) :: (st, en, hd, ct) :: suf)) (hcov : covers ⟨st, en, hd, ct⟩ pc = true) (h0 : ct ≠ 0) (h1 : ct1 ≠ 0) (hlink1 : Cond.classLink own ct1 E1 ∈ T0) (hnc : (E, E1) ∈ ncsX) (hlink : Cond.classLink own ct E ∈ T0) (hcast : Cond.castable E E ∈ T0) (hcell : H[q]? = some ce) (hv : ce.vm = .none) (hcl : s.vm.findClass E = some ce.cls)
    (kk : W p l e R s m args below meth c H locs cells slots Q (F0 m hd ls [.ref q])) : vx_W p l e R s m args below meth c H locs cells slots Q (F0 m pc ls rest) q :=
  vx_catch B.1.2.2.2.1 [⟨st1, en1, hd1, ct1⟩] ⟨st, en, hd, ct⟩ (tableOf suf) htb (fun z hz => by
    rw [List.mem_singleton.mp hz]
    exact Or.inr ⟨h1, E1, B.ts hlink1, B.2.2.2.2.2.2.1 _ hnc⟩) hcov h0 (B.ts hlink) (B.ts hcast) hcell hv hcl kk
/-- a static call of such a method -/
theorem CSW (B : Bx p m c cc nL s args own D cs lo) {index : Nat} {y : MethodName} {cy : ByteArray} {ny fr lv mc ms : Nat} {ret : Option FieldType} {hh : List (Nat × Nat × Nat × Nat)} (n : Nat) (hcode : Cond.codeWith y cy ny ret hh ∈ T0) (hini : Cond.initialized y.cls ∈ T0) (hl : Cond.methodLink own index y ∈ T0) (hsta : Cond.static y ∈ T0)
    (hd : y.cls ≠ "java/lang/invoke/MethodHandle" ∧ y.cls ≠ "java/lang/invoke/VarHandle" ∧ (parseMethodDescriptor y.desc).map (fun d => d.parameters.length) = some n) (hR : fr + 1 ≤ R.frames ∧ 8 + (ny + 11) + lv ≤ R.locals) :
    vx_CSW R s args own index y cy ny ret hh (Cond.codeWith y cy ny ret hh :: T0) ({ frames := fr, cells := mc, slots := ms, locals := lv }) mc ms n := by
  have hm : ∀ w ∈ (Cond.codeWith y cy ny ret hh :: T0), w ∈ T0 := fun w h => by
    rcases List.mem_cons.mp h with h | h
    · rw [h]; exact hcode
    · exact h
  refine ⟨⟨rfl, rfl, hR.1, hR.2, fun w h a' U hW => T0_warm (hm w h) hW (B.ts (hm w h)), List.mem_cons_self⟩, B.ts hcode, B.ts hini, ⟨hd.1, hd.2.1⟩, fun sig h => ?_, B.ts hl, B.ts hsta⟩
  have h2 := hd.2.2
  rw [h] at h2
  exact (Option.some.inj h2).symm
theorem q_callH (B : Bx p m c cc nL s args own D cs lo) (h : Hx D cs lo s S H locs) {index n ny fr lv mc ms : Nat} {y : MethodName} {cy : ByteArray} {ret : Option FieldType} {hh : List (Nat × Nat × Nat × Nat)} {As : List Value} {st : List Value} {wp : HS → (Int32 → HS → Prop) → Prop} {Qc : Int32 → HS → Prop} (hM : HI l y cy ny ret hh fr lv mc ms As wp) (cb : vx_CSW R s args own index y cy ny ret hh (Cond.codeWith y cy ny ret hh :: T0) ({ frames := fr, cells := mc, slots := ms, locals := lv }) mc ms n) (hst9 : st = As.reverse ++ rest) (hn : As.length = n) (hsz : ls.size = nL) (hW : (rest.map fun v => v.category).sum ≤ 8) (hdg : decode cc pc = .ok (.invokestatic index, 3)) (hf : cells + mc ≤ R.cells ∧ slots + ms ≤ R.slots) (hw : wp S Qc)
    (kk : ∀ (r : Int32) (S1 : HS) (H1 : Heap) (locs1 : List Loc), Qc r S1 → Hx D cs lo s S1 H1 locs1 → W p l e R s m args below meth c H1 locs1 (cells + mc) (slots + ms) Q (F0 m (pc + 3) ls (.int r :: rest))) : W p l e R s m args below meth c H locs cells slots Q (F0 m pc ls st) := by
  subst hst9
  refine va_calli (vx_runSW (As := As) (rest := rest) B.1 (hM D cs lo S Qc) cb ⟨fun a U g mk q => ⟨q.1, q.2.1.calling, q.2.2⟩, fun U hU hW => ⟨rfl, h.cn B hU hW, hw⟩⟩ rfl hn hsz rfl (lv_room hW) hdg hf) h.2 (fun _ _ h => h) (fun _ h => h) (fun r S1 t H1 locs1 ht hvm hq hb hz hk hS => ?_)
  try dsimp only at hb
  rw [ht] at hb
  exact kk r S1 H1 locs1 hq ⟨hb, hS⟩
end EX
