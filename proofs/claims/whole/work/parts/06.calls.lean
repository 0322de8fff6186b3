/-! contracts of this claim: a method's predicate transformer wp; from any state that holds S with wp S Q it returns, and Q holds of its answer and of what the heap holds then -/
def MI (l : Launch) (y : MethodName) (cc : ByteArray) (maxL : Nat) (ret : Option FieldType) (fr lv mc ms : Nat) (As : List Value) (wp : HS → (Int32 → HS → Prop) → Prop) : Prop :=
  ∀ (D : va_G) (cs : Nat → ClassId) (lo : Nat) (S : HS) (Q : Int32 → HS → Prop), Met l y (Cond.code y cc maxL ret :: T0) ({ frames := fr, cells := mc, slots := ms, locals := lv }) (va_Pc As (fun U => Cn D cs lo S U ∧ wp S Q)) (va_Qi Q (fun S' t => hp D cs lo S' t.heap) (fun q => lo ≤ q)) mc ms (fun q => lo ≤ q)
theorem MI.of {l : Launch} {y : MethodName} {cc : ByteArray} {maxL fr lv mc ms : Nat} {ret : Option FieldType} {As : List Value} {wp : HS → (Int32 → HS → Prop) → Prop} (hpl : plainName y.cls = true) (hsz : (lg_sl As).length ≤ maxL)
    (body : ∀ (p : Program) (e : Env) (s : State) (m : MethodId) (below : List Frame) (meth : Method) (c : Code) (D : va_G) (cs : Nat → ClassId) (lo : Nat) (S : HS) (Q : Int32 → HS → Prop) (ls : Array Slot), Bx p m c cc maxL s As.toArray y.cls D cs lo → meth.sig.returnType = ret → meth.locks = false → meth.name = y.name → Hx D cs lo s S s.heap [] → lv_has ls maxL (lv_args 0 As) → wp S Q →
      W p l e ({ frames := fr, cells := mc, slots := ms, locals := lv }) s m As.toArray below meth c s.heap [] 0 0 (MQ below (va_Qi Q (fun S' t => hp D cs lo S' t.heap) (fun q => lo ≤ q)) As.toArray s mc ms (fun q => lo ≤ q)) (F0 m 0 ls [])) : MI l y cc maxL ret fr lv mc ms As wp := by
  intro D cs lo S Q
  refine Met.ofW (cc := cc) (maxL := maxL) (ret := ret) hpl rfl ?_
  intro p e s m args below meth c s₁ B hml hv
  obtain ⟨rfl, hC, hw⟩ := hv
  have hts := atoms_spec (ws := Cond.code y cc maxL ret :: T0) B.pre
  have hl := lv_entry As (n := maxL) hsz
  rw [lg_entry_eq]
  generalize (lg_sl As ++ List.replicate (maxL - (lg_sl As).length) Slot.unset).toArray = ls at hl ⊢
  exact body p e s m below meth c D cs lo S Q ls ⟨⟨B.exec, B.bytes, hml, findClass_of_methodNamed B.named, fun w h => hts w (List.mem_cons_of_mem _ h)⟩, hC.2.1, hC.2.2.1, hC.2.2.2⟩ B.returns B.notSynchronized (name_of_methodNamed B.named B.method).1 ⟨hC.1, va_S.rf⟩ hl hw
def MV (l : Launch) (y : MethodName) (cc : ByteArray) (maxL : Nat) (ret : Option FieldType) (fr lv mc ms : Nat) (As : List Value) (wp : HS → (HS → Prop) → Prop) : Prop :=
  ∀ (D : va_G) (cs : Nat → ClassId) (lo : Nat) (S : HS) (Q : HS → Prop), Met l y (Cond.code y cc maxL ret :: T0) ({ frames := fr, cells := mc, slots := ms, locals := lv }) (va_Pc As (fun U => Cn D cs lo S U ∧ wp S Q)) (va_Qv Q (fun S' t => hp D cs lo S' t.heap) (fun q => lo ≤ q)) mc ms (fun q => lo ≤ q)
theorem MV.of {l : Launch} {y : MethodName} {cc : ByteArray} {maxL fr lv mc ms : Nat} {ret : Option FieldType} {As : List Value} {wp : HS → (HS → Prop) → Prop} (hpl : plainName y.cls = true) (hsz : (lg_sl As).length ≤ maxL)
    (body : ∀ (p : Program) (e : Env) (s : State) (m : MethodId) (below : List Frame) (meth : Method) (c : Code) (D : va_G) (cs : Nat → ClassId) (lo : Nat) (S : HS) (Q : HS → Prop) (ls : Array Slot), Bx p m c cc maxL s As.toArray y.cls D cs lo → meth.sig.returnType = ret → meth.locks = false → meth.name = y.name → Hx D cs lo s S s.heap [] → lv_has ls maxL (lv_args 0 As) → wp S Q →
      W p l e ({ frames := fr, cells := mc, slots := ms, locals := lv }) s m As.toArray below meth c s.heap [] 0 0 (MQ below (va_Qv Q (fun S' t => hp D cs lo S' t.heap) (fun q => lo ≤ q)) As.toArray s mc ms (fun q => lo ≤ q)) (F0 m 0 ls [])) : MV l y cc maxL ret fr lv mc ms As wp := by
  intro D cs lo S Q
  refine Met.ofW (cc := cc) (maxL := maxL) (ret := ret) hpl rfl ?_
  intro p e s m args below meth c s₁ B hml hv
  obtain ⟨rfl, hC, hw⟩ := hv
  have hts := atoms_spec (ws := Cond.code y cc maxL ret :: T0) B.pre
  have hl := lv_entry As (n := maxL) hsz
  rw [lg_entry_eq]
  generalize (lg_sl As ++ List.replicate (maxL - (lg_sl As).length) Slot.unset).toArray = ls at hl ⊢
  exact body p e s m below meth c D cs lo S Q ls ⟨⟨B.exec, B.bytes, hml, findClass_of_methodNamed B.named, fun w h => hts w (List.mem_cons_of_mem _ h)⟩, hC.2.1, hC.2.2.1, hC.2.2.2⟩ B.returns B.notSynchronized (name_of_methodNamed B.named B.method).1 ⟨hC.1, va_S.rf⟩ hl hw
def MO (l : Launch) (y : MethodName) (cc : ByteArray) (maxL : Nat) (ret : Option FieldType) (fr lv mc ms : Nat) (As : List Value) (wp : HS → (Option Nat → HS → Prop) → Prop) : Prop :=
  ∀ (D : va_G) (cs : Nat → ClassId) (lo : Nat) (S : HS) (Q : Option Nat → HS → Prop), Met l y (Cond.code y cc maxL ret :: T0) ({ frames := fr, cells := mc, slots := ms, locals := lv }) (va_Pc As (fun U => Cn D cs lo S U ∧ wp S Q)) (va_Qq Q (fun S' t => hp D cs lo S' t.heap) (fun q => lo ≤ q)) mc ms (fun q => lo ≤ q)
theorem MO.of {l : Launch} {y : MethodName} {cc : ByteArray} {maxL fr lv mc ms : Nat} {ret : Option FieldType} {As : List Value} {wp : HS → (Option Nat → HS → Prop) → Prop} (hpl : plainName y.cls = true) (hsz : (lg_sl As).length ≤ maxL)
    (body : ∀ (p : Program) (e : Env) (s : State) (m : MethodId) (below : List Frame) (meth : Method) (c : Code) (D : va_G) (cs : Nat → ClassId) (lo : Nat) (S : HS) (Q : Option Nat → HS → Prop) (ls : Array Slot), Bx p m c cc maxL s As.toArray y.cls D cs lo → meth.sig.returnType = ret → meth.locks = false → meth.name = y.name → Hx D cs lo s S s.heap [] → lv_has ls maxL (lv_args 0 As) → wp S Q →
      W p l e ({ frames := fr, cells := mc, slots := ms, locals := lv }) s m As.toArray below meth c s.heap [] 0 0 (MQ below (va_Qq Q (fun S' t => hp D cs lo S' t.heap) (fun q => lo ≤ q)) As.toArray s mc ms (fun q => lo ≤ q)) (F0 m 0 ls [])) : MO l y cc maxL ret fr lv mc ms As wp := by
  intro D cs lo S Q
  refine Met.ofW (cc := cc) (maxL := maxL) (ret := ret) hpl rfl ?_
  intro p e s m args below meth c s₁ B hml hv
  obtain ⟨rfl, hC, hw⟩ := hv
  have hts := atoms_spec (ws := Cond.code y cc maxL ret :: T0) B.pre
  have hl := lv_entry As (n := maxL) hsz
  rw [lg_entry_eq]
  generalize (lg_sl As ++ List.replicate (maxL - (lg_sl As).length) Slot.unset).toArray = ls at hl ⊢
  exact body p e s m below meth c D cs lo S Q ls ⟨⟨B.exec, B.bytes, hml, findClass_of_methodNamed B.named, fun w h => hts w (List.mem_cons_of_mem _ h)⟩, hC.2.1, hC.2.2.1, hC.2.2.2⟩ B.returns B.notSynchronized (name_of_methodNamed B.named B.method).1 ⟨hC.1, va_S.rf⟩ hl hw
def MF (l : Launch) (y : MethodName) (cc : ByteArray) (maxL : Nat) (ret : Option FieldType) (fr lv mc ms : Nat) (As : List Value) (wp : HS → (UInt32 → HS → Prop) → Prop) : Prop :=
  ∀ (D : va_G) (cs : Nat → ClassId) (lo : Nat) (S : HS) (Q : UInt32 → HS → Prop), Met l y (Cond.code y cc maxL ret :: T0) ({ frames := fr, cells := mc, slots := ms, locals := lv }) (va_Pc As (fun U => Cn D cs lo S U ∧ wp S Q)) (va_Qf Q (fun S' t => hp D cs lo S' t.heap) (fun q => lo ≤ q)) mc ms (fun q => lo ≤ q)
theorem MF.of {l : Launch} {y : MethodName} {cc : ByteArray} {maxL fr lv mc ms : Nat} {ret : Option FieldType} {As : List Value} {wp : HS → (UInt32 → HS → Prop) → Prop} (hpl : plainName y.cls = true) (hsz : (lg_sl As).length ≤ maxL)
    (body : ∀ (p : Program) (e : Env) (s : State) (m : MethodId) (below : List Frame) (meth : Method) (c : Code) (D : va_G) (cs : Nat → ClassId) (lo : Nat) (S : HS) (Q : UInt32 → HS → Prop) (ls : Array Slot), Bx p m c cc maxL s As.toArray y.cls D cs lo → meth.sig.returnType = ret → meth.locks = false → meth.name = y.name → Hx D cs lo s S s.heap [] → lv_has ls maxL (lv_args 0 As) → wp S Q →
      W p l e ({ frames := fr, cells := mc, slots := ms, locals := lv }) s m As.toArray below meth c s.heap [] 0 0 (MQ below (va_Qf Q (fun S' t => hp D cs lo S' t.heap) (fun q => lo ≤ q)) As.toArray s mc ms (fun q => lo ≤ q)) (F0 m 0 ls [])) : MF l y cc maxL ret fr lv mc ms As wp := by
  intro D cs lo S Q
  refine Met.ofW (cc := cc) (maxL := maxL) (ret := ret) hpl rfl ?_
  intro p e s m args below meth c s₁ B hml hv
  obtain ⟨rfl, hC, hw⟩ := hv
  have hts := atoms_spec (ws := Cond.code y cc maxL ret :: T0) B.pre
  have hl := lv_entry As (n := maxL) hsz
  rw [lg_entry_eq]
  generalize (lg_sl As ++ List.replicate (maxL - (lg_sl As).length) Slot.unset).toArray = ls at hl ⊢
  exact body p e s m below meth c D cs lo S Q ls ⟨⟨B.exec, B.bytes, hml, findClass_of_methodNamed B.named, fun w h => hts w (List.mem_cons_of_mem _ h)⟩, hC.2.1, hC.2.2.1, hC.2.2.2⟩ B.returns B.notSynchronized (name_of_methodNamed B.named B.method).1 ⟨hC.1, va_S.rf⟩ hl hw
section CL
variable {p : Program} {l : Launch} {e : Env} {R : Room} {s : State} {m : MethodId} {args : Array Value} {below : List Frame} {meth : Method} {c : Code} {H : Heap} {locs : List Loc} {cells slots : Nat} {Q : State → Prop}
variable {cc : ByteArray} {pc nL lo : Nat} {ls : Array Slot} {rest : List Value} {D : va_G} {cs : Nat → ClassId} {own : String} {S : HS}
theorem CB (B : Bx p m c cc nL s args own D cs lo) {index : Nat} {y : MethodName} {cy : ByteArray} {ny fr lv mc ms : Nat} {ret : Option FieldType} (n : Nat) (hcode : Cond.code y cy ny ret ∈ T0) (hini : Cond.initialized y.cls ∈ T0) (hl : Cond.methodLink own index y ∈ T0)
    (hd : y.cls ≠ "java/lang/invoke/MethodHandle" ∧ y.cls ≠ "java/lang/invoke/VarHandle" ∧ (parseMethodDescriptor y.desc).map (fun d => d.parameters.length) = some n) (hR : fr + 1 ≤ R.frames ∧ 8 + (ny + 11) + lv ≤ R.locals) :
    CallB R s args own index y cy ny ret (Cond.code y cy ny ret :: T0) ({ frames := fr, cells := mc, slots := ms, locals := lv }) mc ms n := by
  have hm : ∀ w ∈ (Cond.code y cy ny ret :: T0), w ∈ T0 := fun w h => by
    rcases List.mem_cons.mp h with h | h
    · rw [h]; exact hcode
    · exact h
  refine ⟨rfl, rfl, hR.1, hR.2, fun w h a' U hW => T0_warm (hm w h) hW (B.ts (hm w h)), List.mem_cons_self, B.ts hcode, B.ts hini, ⟨hd.1, hd.2.1⟩, fun sig h => ?_, B.ts hl⟩
  have h2 := hd.2.2
  rw [h] at h2
  exact (Option.some.inj h2).symm
theorem CN (B : Bx p m c cc nL s args own D cs lo) {index : Nat} {y : MethodName} {cy : ByteArray} {host : String} {ny fr lv mc ms : Nat} {ret : Option FieldType} (n : Nat) (hcode : Cond.code y cy ny ret ∈ T0) (hini : Cond.initialized y.cls ∈ T0) (hl : Cond.methodLinkNest own index y host ∈ T0)
    (hd : y.cls ≠ "java/lang/invoke/MethodHandle" ∧ y.cls ≠ "java/lang/invoke/VarHandle" ∧ (parseMethodDescriptor y.desc).map (fun d => d.parameters.length) = some n) (hR : fr + 1 ≤ R.frames ∧ 8 + (ny + 11) + lv ≤ R.locals) :
    va_CN R s args own index y host cy ny ret (Cond.code y cy ny ret :: T0) ({ frames := fr, cells := mc, slots := ms, locals := lv }) mc ms n := by
  have hm : ∀ w ∈ (Cond.code y cy ny ret :: T0), w ∈ T0 := fun w h => by
    rcases List.mem_cons.mp h with h | h
    · rw [h]; exact hcode
    · exact h
  refine ⟨⟨rfl, rfl, hR.1, hR.2, fun w h a' U hW => T0_warm (hm w h) hW (B.ts (hm w h)), List.mem_cons_self⟩, B.ts hcode, B.ts hini, ⟨hd.1, hd.2.1⟩, fun sig h => ?_, B.ts hl⟩
  have h2 := hd.2.2
  rw [h] at h2
  exact (Option.some.inj h2).symm
theorem hp.recv (B : Bx p m c cc nL s args own D cs lo) (h : hp D cs lo S H) {a ci : Nat} {q : vw_C} (hc : vwCl[ci]? = some q) (h6 : ci < 6) (ha : a ∈ gL S) (hk : gK S a = ci) : ∃ cell : Cell, H[a]? = some cell ∧ cell.vm.isStatics = false ∧ s.vm.findClass q.1 = some cell.cls := by
  obtain ⟨k, hk1⟩ := h.k ha
  rw [cell_o hk h6] at hk1
  exact va_recv B.2.1 h.1 hc hk1
theorem q_callIS (B : Bx p m c cc nL s args own D cs lo) (h : Hx D cs lo s S H locs) {index n ny fr lv mc ms : Nat} {y : MethodName} {cy : ByteArray} {ret : Option FieldType} {As : List Value} {st : List Value} {wp : HS → (Int32 → HS → Prop) → Prop} {Qc : Int32 → HS → Prop} (hM : MI l y cy ny ret fr lv mc ms As wp) (cb : CallB R s args own index y cy ny ret (Cond.code y cy ny ret :: T0) ({ frames := fr, cells := mc, slots := ms, locals := lv }) mc ms n) (hst : Cond.static y ∈ T0) (hst9 : st = As.reverse ++ rest) (hn : As.length = n) (hsz : ls.size = nL) (hW : (rest.map fun v => v.category).sum ≤ 8) (hdg : decode cc pc = .ok (.invokestatic index, 3)) (hf : cells + mc ≤ R.cells ∧ slots + ms ≤ R.slots) (hw : wp S Qc)
    (kk : ∀ (r : Int32) (S1 : HS) (H1 : Heap) (locs1 : List Loc), Qc r S1 → Hx D cs lo s S1 H1 locs1 → W p l e R s m args below meth c H1 locs1 (cells + mc) (slots + ms) Q (F0 m (pc + 3) ls (.int r :: rest))) : W p l e R s m args below meth c H locs cells slots Q (F0 m pc ls st) := by
  subst hst9
  refine va_calli (va_runS (As := As) (rest := rest) B.1 (hM D cs lo S Qc) ⟨cb, B.ts hst⟩ ⟨fun a U g mk q => ⟨q.1, q.2.1.calling, q.2.2⟩, fun U hU hW => ⟨rfl, h.cn B hU hW, hw⟩⟩ rfl hn hsz rfl (lv_room hW) hdg hf) h.2 (fun _ _ h => h) (fun _ h => h) (fun r S1 t H1 locs1 ht hvm hq hb hz hk hS => ?_)
  try dsimp only at hb
  rw [ht] at hb
  exact kk r S1 H1 locs1 hq ⟨hb, hS⟩
theorem q_callIV (B : Bx p m c cc nL s args own D cs lo) (h : Hx D cs lo s S H locs) {index n ny fr lv mc ms b : Nat} {y : MethodName} {cy : ByteArray} {ret : Option FieldType} {As : List Value} {st : List Value} {wp : HS → (Int32 → HS → Prop) → Prop} {Qc : Int32 → HS → Prop} (hM : MI l y cy ny ret fr lv mc ms (.ref b :: As) wp) {ci : Nat} {q : vw_C} (cb : CallB R s args own index y cy ny ret (Cond.code y cy ny ret :: T0) ({ frames := fr, cells := mc, slots := ms, locals := lv }) mc ms n) (hin : Cond.instanceMethod y ∈ T0) (hsel : Cond.selects q.1 y y ∈ T0) (hc : vwCl[ci]? = some q) (h6 : ci < 6) (hb : b ∈ gL S) (hkb : gK S b = ci) (hst9 : st = As.reverse ++ .ref b :: rest) (hn : As.length = n) (hsz : ls.size = nL) (hW : (rest.map fun v => v.category).sum ≤ 8) (hdg : decode cc pc = .ok (.invokevirtual index, 3)) (hf : cells + mc ≤ R.cells ∧ slots + ms ≤ R.slots) (hw : wp S Qc)
    (kk : ∀ (r : Int32) (S1 : HS) (H1 : Heap) (locs1 : List Loc), Qc r S1 → Hx D cs lo s S1 H1 locs1 → W p l e R s m args below meth c H1 locs1 (cells + mc) (slots + ms) Q (F0 m (pc + 3) ls (.int r :: rest))) : W p l e R s m args below meth c H locs cells slots Q (F0 m pc ls st) := by
  subst hst9
  refine va_calli (va_runV (As := As) (rest := rest) B.1 (hM D cs lo S Qc) ⟨cb, B.ts hin, B.ts hsel⟩ ⟨fun a U g mk q => ⟨q.1, q.2.1.calling, q.2.2⟩, hp.recv B h.1 hc h6 hb hkb, fun U hU hW => ⟨rfl, h.cn B hU hW, hw⟩⟩ rfl hn hsz rfl (lv_room hW) hdg hf) h.2 (fun _ _ h => h) (fun _ h => h) (fun r S1 t H1 locs1 ht hvm hq hb hz hk hS => ?_)
  try dsimp only at hb
  rw [ht] at hb
  exact kk r S1 H1 locs1 hq ⟨hb, hS⟩
theorem q_callVS (B : Bx p m c cc nL s args own D cs lo) (h : Hx D cs lo s S H locs) {index n ny fr lv mc ms : Nat} {y : MethodName} {cy : ByteArray} {ret : Option FieldType} {As : List Value} {st : List Value} {wp : HS → (HS → Prop) → Prop} {Qc : HS → Prop} (hM : MV l y cy ny ret fr lv mc ms As wp) (cb : CallB R s args own index y cy ny ret (Cond.code y cy ny ret :: T0) ({ frames := fr, cells := mc, slots := ms, locals := lv }) mc ms n) (hst : Cond.static y ∈ T0) (hst9 : st = As.reverse ++ rest) (hn : As.length = n) (hsz : ls.size = nL) (hW : (rest.map fun v => v.category).sum ≤ 8) (hdg : decode cc pc = .ok (.invokestatic index, 3)) (hf : cells + mc ≤ R.cells ∧ slots + ms ≤ R.slots) (hw : wp S Qc)
    (kk : ∀ (S1 : HS) (H1 : Heap) (locs1 : List Loc), Qc S1 → Hx D cs lo s S1 H1 locs1 → W p l e R s m args below meth c H1 locs1 (cells + mc) (slots + ms) Q (F0 m (pc + 3) ls (rest))) : W p l e R s m args below meth c H locs cells slots Q (F0 m pc ls st) := by
  subst hst9
  refine va_callv (va_runS (As := As) (rest := rest) B.1 (hM D cs lo S Qc) ⟨cb, B.ts hst⟩ ⟨fun a U g mk q => ⟨q.1, q.2.1.calling, q.2.2⟩, fun U hU hW => ⟨rfl, h.cn B hU hW, hw⟩⟩ rfl hn hsz rfl (lv_room hW) hdg hf) h.2 (fun _ _ h => h) (fun _ h => h) (fun S1 t H1 locs1 ht hvm hq hb hz hk hS => ?_)
  try dsimp only at hb
  rw [ht] at hb
  exact kk S1 H1 locs1 hq ⟨hb, hS⟩
theorem q_callVV (B : Bx p m c cc nL s args own D cs lo) (h : Hx D cs lo s S H locs) {index n ny fr lv mc ms b : Nat} {y : MethodName} {cy : ByteArray} {ret : Option FieldType} {As : List Value} {st : List Value} {wp : HS → (HS → Prop) → Prop} {Qc : HS → Prop} (hM : MV l y cy ny ret fr lv mc ms (.ref b :: As) wp) {ci : Nat} {q : vw_C} (cb : CallB R s args own index y cy ny ret (Cond.code y cy ny ret :: T0) ({ frames := fr, cells := mc, slots := ms, locals := lv }) mc ms n) (hin : Cond.instanceMethod y ∈ T0) (hsel : Cond.selects q.1 y y ∈ T0) (hc : vwCl[ci]? = some q) (h6 : ci < 6) (hb : b ∈ gL S) (hkb : gK S b = ci) (hst9 : st = As.reverse ++ .ref b :: rest) (hn : As.length = n) (hsz : ls.size = nL) (hW : (rest.map fun v => v.category).sum ≤ 8) (hdg : decode cc pc = .ok (.invokevirtual index, 3)) (hf : cells + mc ≤ R.cells ∧ slots + ms ≤ R.slots) (hw : wp S Qc)
    (kk : ∀ (S1 : HS) (H1 : Heap) (locs1 : List Loc), Qc S1 → Hx D cs lo s S1 H1 locs1 → W p l e R s m args below meth c H1 locs1 (cells + mc) (slots + ms) Q (F0 m (pc + 3) ls (rest))) : W p l e R s m args below meth c H locs cells slots Q (F0 m pc ls st) := by
  subst hst9
  refine va_callv (va_runV (As := As) (rest := rest) B.1 (hM D cs lo S Qc) ⟨cb, B.ts hin, B.ts hsel⟩ ⟨fun a U g mk q => ⟨q.1, q.2.1.calling, q.2.2⟩, hp.recv B h.1 hc h6 hb hkb, fun U hU hW => ⟨rfl, h.cn B hU hW, hw⟩⟩ rfl hn hsz rfl (lv_room hW) hdg hf) h.2 (fun _ _ h => h) (fun _ h => h) (fun S1 t H1 locs1 ht hvm hq hb hz hk hS => ?_)
  try dsimp only at hb
  rw [ht] at hb
  exact kk S1 H1 locs1 hq ⟨hb, hS⟩
theorem q_callOS (B : Bx p m c cc nL s args own D cs lo) (h : Hx D cs lo s S H locs) {index n ny fr lv mc ms : Nat} {y : MethodName} {cy : ByteArray} {ret : Option FieldType} {As : List Value} {st : List Value} {wp : HS → (Option Nat → HS → Prop) → Prop} {Qc : Option Nat → HS → Prop} (hM : MO l y cy ny ret fr lv mc ms As wp) (cb : CallB R s args own index y cy ny ret (Cond.code y cy ny ret :: T0) ({ frames := fr, cells := mc, slots := ms, locals := lv }) mc ms n) (hst : Cond.static y ∈ T0) (hst9 : st = As.reverse ++ rest) (hn : As.length = n) (hsz : ls.size = nL) (hW : (rest.map fun v => v.category).sum ≤ 8) (hdg : decode cc pc = .ok (.invokestatic index, 3)) (hf : cells + mc ≤ R.cells ∧ slots + ms ≤ R.slots) (hw : wp S Qc)
    (kk : ∀ (r : Option Nat) (S1 : HS) (H1 : Heap) (locs1 : List Loc), Qc r S1 → Hx D cs lo s S1 H1 locs1 → W p l e R s m args below meth c H1 locs1 (cells + mc) (slots + ms) Q (F0 m (pc + 3) ls (va_rf r :: rest))) : W p l e R s m args below meth c H locs cells slots Q (F0 m pc ls st) := by
  subst hst9
  refine va_callq (va_runS (As := As) (rest := rest) B.1 (hM D cs lo S Qc) ⟨cb, B.ts hst⟩ ⟨fun a U g mk q => ⟨q.1, q.2.1.calling, q.2.2⟩, fun U hU hW => ⟨rfl, h.cn B hU hW, hw⟩⟩ rfl hn hsz rfl (lv_room hW) hdg hf) h.2 (fun _ _ h => h) (fun _ h => h) (fun r S1 t H1 locs1 ht hvm hq hb hz hk hS => ?_)
  try dsimp only at hb
  rw [ht] at hb
  exact kk r S1 H1 locs1 hq ⟨hb, hS⟩
theorem q_callOV (B : Bx p m c cc nL s args own D cs lo) (h : Hx D cs lo s S H locs) {index n ny fr lv mc ms b : Nat} {y : MethodName} {cy : ByteArray} {ret : Option FieldType} {As : List Value} {st : List Value} {wp : HS → (Option Nat → HS → Prop) → Prop} {Qc : Option Nat → HS → Prop} (hM : MO l y cy ny ret fr lv mc ms (.ref b :: As) wp) {ci : Nat} {q : vw_C} (cb : CallB R s args own index y cy ny ret (Cond.code y cy ny ret :: T0) ({ frames := fr, cells := mc, slots := ms, locals := lv }) mc ms n) (hin : Cond.instanceMethod y ∈ T0) (hsel : Cond.selects q.1 y y ∈ T0) (hc : vwCl[ci]? = some q) (h6 : ci < 6) (hb : b ∈ gL S) (hkb : gK S b = ci) (hst9 : st = As.reverse ++ .ref b :: rest) (hn : As.length = n) (hsz : ls.size = nL) (hW : (rest.map fun v => v.category).sum ≤ 8) (hdg : decode cc pc = .ok (.invokevirtual index, 3)) (hf : cells + mc ≤ R.cells ∧ slots + ms ≤ R.slots) (hw : wp S Qc)
    (kk : ∀ (r : Option Nat) (S1 : HS) (H1 : Heap) (locs1 : List Loc), Qc r S1 → Hx D cs lo s S1 H1 locs1 → W p l e R s m args below meth c H1 locs1 (cells + mc) (slots + ms) Q (F0 m (pc + 3) ls (va_rf r :: rest))) : W p l e R s m args below meth c H locs cells slots Q (F0 m pc ls st) := by
  subst hst9
  refine va_callq (va_runV (As := As) (rest := rest) B.1 (hM D cs lo S Qc) ⟨cb, B.ts hin, B.ts hsel⟩ ⟨fun a U g mk q => ⟨q.1, q.2.1.calling, q.2.2⟩, hp.recv B h.1 hc h6 hb hkb, fun U hU hW => ⟨rfl, h.cn B hU hW, hw⟩⟩ rfl hn hsz rfl (lv_room hW) hdg hf) h.2 (fun _ _ h => h) (fun _ h => h) (fun r S1 t H1 locs1 ht hvm hq hb hz hk hS => ?_)
  try dsimp only at hb
  rw [ht] at hb
  exact kk r S1 H1 locs1 hq ⟨hb, hS⟩
theorem q_callFS (B : Bx p m c cc nL s args own D cs lo) (h : Hx D cs lo s S H locs) {index n ny fr lv mc ms : Nat} {y : MethodName} {cy : ByteArray} {ret : Option FieldType} {As : List Value} {st : List Value} {wp : HS → (UInt32 → HS → Prop) → Prop} {Qc : UInt32 → HS → Prop} (hM : MF l y cy ny ret fr lv mc ms As wp) (cb : CallB R s args own index y cy ny ret (Cond.code y cy ny ret :: T0) ({ frames := fr, cells := mc, slots := ms, locals := lv }) mc ms n) (hst : Cond.static y ∈ T0) (hst9 : st = As.reverse ++ rest) (hn : As.length = n) (hsz : ls.size = nL) (hW : (rest.map fun v => v.category).sum ≤ 8) (hdg : decode cc pc = .ok (.invokestatic index, 3)) (hf : cells + mc ≤ R.cells ∧ slots + ms ≤ R.slots) (hw : wp S Qc)
    (kk : ∀ (r : UInt32) (S1 : HS) (H1 : Heap) (locs1 : List Loc), Qc r S1 → Hx D cs lo s S1 H1 locs1 → W p l e R s m args below meth c H1 locs1 (cells + mc) (slots + ms) Q (F0 m (pc + 3) ls (.float r :: rest))) : W p l e R s m args below meth c H locs cells slots Q (F0 m pc ls st) := by
  subst hst9
  refine va_callf (va_runS (As := As) (rest := rest) B.1 (hM D cs lo S Qc) ⟨cb, B.ts hst⟩ ⟨fun a U g mk q => ⟨q.1, q.2.1.calling, q.2.2⟩, fun U hU hW => ⟨rfl, h.cn B hU hW, hw⟩⟩ rfl hn hsz rfl (lv_room hW) hdg hf) h.2 (fun _ _ h => h) (fun _ h => h) (fun r S1 t H1 locs1 ht hvm hq hb hz hk hS => ?_)
  try dsimp only at hb
  rw [ht] at hb
  exact kk r S1 H1 locs1 hq ⟨hb, hS⟩
theorem q_callFV (B : Bx p m c cc nL s args own D cs lo) (h : Hx D cs lo s S H locs) {index n ny fr lv mc ms b : Nat} {y : MethodName} {cy : ByteArray} {ret : Option FieldType} {As : List Value} {st : List Value} {wp : HS → (UInt32 → HS → Prop) → Prop} {Qc : UInt32 → HS → Prop} (hM : MF l y cy ny ret fr lv mc ms (.ref b :: As) wp) {ci : Nat} {q : vw_C} (cb : CallB R s args own index y cy ny ret (Cond.code y cy ny ret :: T0) ({ frames := fr, cells := mc, slots := ms, locals := lv }) mc ms n) (hin : Cond.instanceMethod y ∈ T0) (hsel : Cond.selects q.1 y y ∈ T0) (hc : vwCl[ci]? = some q) (h6 : ci < 6) (hb : b ∈ gL S) (hkb : gK S b = ci) (hst9 : st = As.reverse ++ .ref b :: rest) (hn : As.length = n) (hsz : ls.size = nL) (hW : (rest.map fun v => v.category).sum ≤ 8) (hdg : decode cc pc = .ok (.invokevirtual index, 3)) (hf : cells + mc ≤ R.cells ∧ slots + ms ≤ R.slots) (hw : wp S Qc)
    (kk : ∀ (r : UInt32) (S1 : HS) (H1 : Heap) (locs1 : List Loc), Qc r S1 → Hx D cs lo s S1 H1 locs1 → W p l e R s m args below meth c H1 locs1 (cells + mc) (slots + ms) Q (F0 m (pc + 3) ls (.float r :: rest))) : W p l e R s m args below meth c H locs cells slots Q (F0 m pc ls st) := by
  subst hst9
  refine va_callf (va_runV (As := As) (rest := rest) B.1 (hM D cs lo S Qc) ⟨cb, B.ts hin, B.ts hsel⟩ ⟨fun a U g mk q => ⟨q.1, q.2.1.calling, q.2.2⟩, hp.recv B h.1 hc h6 hb hkb, fun U hU hW => ⟨rfl, h.cn B hU hW, hw⟩⟩ rfl hn hsz rfl (lv_room hW) hdg hf) h.2 (fun _ _ h => h) (fun _ h => h) (fun r S1 t H1 locs1 ht hvm hq hb hz hk hS => ?_)
  try dsimp only at hb
  rw [ht] at hb
  exact kk r S1 H1 locs1 hq ⟨hb, hS⟩
theorem q_callVI (B : Bx p m c cc nL s args own D cs lo) (h : Hx D cs lo s S H locs) {index n ny fr lv mc ms b : Nat} {y : MethodName} {cy : ByteArray} {As : List Value} {st : List Value} {wp : HS → (HS → Prop) → Prop} {Qc : HS → Prop} (hM : MV l y cy ny none fr lv mc ms (.ref b :: As) wp) (cb : CallB R s args own index y cy ny none (Cond.code y cy ny none :: T0) ({ frames := fr, cells := mc, slots := ms, locals := lv }) mc ms n) (hi : y.name = "<init>") (hin : Cond.instanceMethod y ∈ T0) (hst9 : st = As.reverse ++ .ref b :: rest) (hn : As.length = n) (hsz : ls.size = nL) (hW : (rest.map fun v => v.category).sum ≤ 8) (hdg : decode cc pc = .ok (.invokespecial index, 3)) (hf : cells + mc ≤ R.cells ∧ slots + ms ≤ R.slots) (hw : wp S Qc)
    (kk : ∀ (S1 : HS) (H1 : Heap) (locs1 : List Loc), Qc S1 → Hx D cs lo s S1 H1 locs1 → W p l e R s m args below meth c H1 locs1 (cells + mc) (slots + ms) Q (F0 m (pc + 3) ls (rest))) : W p l e R s m args below meth c H locs cells slots Q (F0 m pc ls st) := by
  subst hst9
  refine va_callv (va_runI (As := As) (rest := rest) B.1 (hM D cs lo S Qc) ⟨cb, hi, B.ts hin⟩ ⟨fun a U g mk q => ⟨q.1, q.2.1.calling, q.2.2⟩, fun U hU hW => ⟨rfl, h.cn B hU hW, hw⟩⟩ rfl hn hsz rfl (lv_room hW) hdg hf) h.2 (fun _ _ h => h) (fun _ h => h) (fun S1 t H1 locs1 ht hvm hq hb hz hk hS => ?_)
  try dsimp only at hb
  rw [ht] at hb
  exact kk S1 H1 locs1 hq ⟨hb, hS⟩
theorem q_callVIN (B : Bx p m c cc nL s args own D cs lo) (h : Hx D cs lo s S H locs) {index n ny fr lv mc ms b : Nat} {y : MethodName} {cy : ByteArray} {As : List Value} {st : List Value} {wp : HS → (HS → Prop) → Prop} {Qc : HS → Prop} (hM : MV l y cy ny none fr lv mc ms (.ref b :: As) wp) {host : String} (cb : va_CN R s args own index y host cy ny none (Cond.code y cy ny none :: T0) ({ frames := fr, cells := mc, slots := ms, locals := lv }) mc ms n) (hi : y.name = "<init>") (hin : Cond.instanceMethod y ∈ T0) (hst9 : st = As.reverse ++ .ref b :: rest) (hn : As.length = n) (hsz : ls.size = nL) (hW : (rest.map fun v => v.category).sum ≤ 8) (hdg : decode cc pc = .ok (.invokespecial index, 3)) (hf : cells + mc ≤ R.cells ∧ slots + ms ≤ R.slots) (hw : wp S Qc)
    (kk : ∀ (S1 : HS) (H1 : Heap) (locs1 : List Loc), Qc S1 → Hx D cs lo s S1 H1 locs1 → W p l e R s m args below meth c H1 locs1 (cells + mc) (slots + ms) Q (F0 m (pc + 3) ls (rest))) : W p l e R s m args below meth c H locs cells slots Q (F0 m pc ls st) := by
  subst hst9
  refine va_callv (va_runIN (As := As) (rest := rest) B.1 (hM D cs lo S Qc) ⟨cb, hi, B.ts hin⟩ ⟨fun a U g mk q => ⟨q.1, q.2.1.calling, q.2.2⟩, fun U hU hW => ⟨rfl, h.cn B hU hW, hw⟩⟩ rfl hn hsz rfl (lv_room hW) hdg hf) h.2 (fun _ _ h => h) (fun _ h => h) (fun S1 t H1 locs1 ht hvm hq hb hz hk hS => ?_)
  try dsimp only at hb
  rw [ht] at hb
  exact kk S1 H1 locs1 hq ⟨hb, hS⟩
theorem q_iret (B : Bx p m c cc nL s args own D cs lo) (hr : meth.sig.returnType = some .int) (hlk : meth.locks = false) (h : Hx D cs lo s S H locs) {v : Int32} {Qc : Int32 → HS → Prop} {mc ms : Nat} (hq : Qc v S) (hdg : decode cc pc = .ok (.ireturn, 1)) (hc : cells ≤ mc) (hs : slots ≤ ms) :
    W p l e R s m args below meth c H locs cells slots (MQ below (va_Qi Qc (fun S' t => hp D cs lo S' t.heap) (fun q => lo ≤ q)) args s mc ms (fun q => lo ≤ q)) (F0 m pc ls [.int v]) :=
  W.widen hc hs (W.iret B.1.1 B.1.2.1 hr (fun t ht hW => ⟨⟨v, S, rfl, hq, by (try dsimp only); rw [ht]; exact h.1⟩, h.2.F ht⟩) h.2.2.2 hdg hlk)
theorem q_zret (B : Bx p m c cc nL s args own D cs lo) (hr : meth.sig.returnType = some .boolean) (hlk : meth.locks = false) (h : Hx D cs lo s S H locs) {v : Int32} {Qc : Int32 → HS → Prop} {mc ms : Nat} (hn : v = 0 ∨ v = 1) (hq : Qc v S) (hdg : decode cc pc = .ok (.ireturn, 1)) (hc : cells ≤ mc) (hs : slots ≤ ms) :
    W p l e R s m args below meth c H locs cells slots (MQ below (va_Qi Qc (fun S' t => hp D cs lo S' t.heap) (fun q => lo ≤ q)) args s mc ms (fun q => lo ≤ q)) (F0 m pc ls [.int v]) :=
  W.widen hc hs (W.zret B.1.1 B.1.2.1 hr (by rcases hn with rfl | rfl <;> decide) (fun t ht hW => ⟨⟨v, S, rfl, hq, by (try dsimp only); rw [ht]; exact h.1⟩, h.2.F ht⟩) h.2.2.2 hdg hlk)
theorem q_vret (B : Bx p m c cc nL s args own D cs lo) (hr : meth.sig.returnType = none) (hlk : meth.locks = false) (h : Hx D cs lo s S H locs) {Qc : HS → Prop} {mc ms : Nat} (hq : Qc S) (hdg : decode cc pc = .ok (.return_, 1)) (hc : cells ≤ mc) (hs : slots ≤ ms) :
    W p l e R s m args below meth c H locs cells slots (MQ below (va_Qv Qc (fun S' t => hp D cs lo S' t.heap) (fun q => lo ≤ q)) args s mc ms (fun q => lo ≤ q)) (F0 m pc ls []) :=
  W.widen hc hs (W.vret B.1.1 B.1.2.1 hr (fun t ht hW => ⟨⟨S, rfl, hq, by (try dsimp only); rw [ht]; exact h.1⟩, h.2.F ht⟩) h.2.2.2 hdg hlk)
theorem q_aret (B : Bx p m c cc nL s args own D cs lo) {C : String} (hr : meth.sig.returnType = some (.object C)) (hlk : meth.locks = false) (h : Hx D cs lo s S H locs) {v : Option Nat} {Qc : Option Nat → HS → Prop} {mc ms : Nat} (hq : Qc v S) (hdg : decode cc pc = .ok (.areturn, 1)) (hc : cells ≤ mc) (hs : slots ≤ ms) :
    W p l e R s m args below meth c H locs cells slots (MQ below (va_Qq Qc (fun S' t => hp D cs lo S' t.heap) (fun q => lo ≤ q)) args s mc ms (fun q => lo ≤ q)) (F0 m pc ls [va_rf v]) :=
  W.widen hc hs (W.aret B.1.1 B.1.2.1 hr (Or.inl ⟨C, rfl⟩) (va_rf_or v) (fun t ht hW => ⟨⟨v, S, rfl, hq, by (try dsimp only); rw [ht]; exact h.1⟩, h.2.F ht⟩) h.2.2.2 hdg hlk)
theorem q_fret (B : Bx p m c cc nL s args own D cs lo) (hr : meth.sig.returnType = some .float) (hlk : meth.locks = false) (h : Hx D cs lo s S H locs) {v : UInt32} {Qc : UInt32 → HS → Prop} {mc ms : Nat} (hq : Qc v S) (hdg : decode cc pc = .ok (.freturn, 1)) (hc : cells ≤ mc) (hs : slots ≤ ms) :
    W p l e R s m args below meth c H locs cells slots (MQ below (va_Qf Qc (fun S' t => hp D cs lo S' t.heap) (fun q => lo ≤ q)) args s mc ms (fun q => lo ≤ q)) (F0 m pc ls [.float v]) :=
  W.widen hc hs (W.fret B.1.1 B.1.2.1 hr (fun t ht hW => ⟨⟨v, S, rfl, hq, by (try dsimp only); rw [ht]; exact h.1⟩, h.2.F ht⟩) h.2.2.2 hdg hlk)
/-- null or not -/
theorem q_ifnull (hexec : p.tables.exec = Jvm.exec) (hb : c.code = cc) {o : Option Nat} {off : Int} {tgt : Nat} (hdg : decode cc pc = .ok (.ifnull off, 3)) (ht : (pc : Int) + off = (tgt : Int)) (k0 : o = none → W p l e R s m args below meth c H locs cells slots Q (F0 m tgt ls rest)) (k1 : ∀ q, o = some q → W p l e R s m args below meth c H locs cells slots Q (F0 m (pc + 3) ls rest)) : W p l e R s m args below meth c H locs cells slots Q (F0 m pc ls (va_rf o :: rest)) := by
  cases o with
  | none => exact lv_ifnullN hexec hb hdg ht (k0 rfl)
  | some q => exact lv_ifnull hexec hb hdg (k1 q rfl)
theorem q_ifnonnull (hexec : p.tables.exec = Jvm.exec) (hb : c.code = cc) {o : Option Nat} {off : Int} {tgt : Nat} (hdg : decode cc pc = .ok (.ifnonnull off, 3)) (ht : (pc : Int) + off = (tgt : Int)) (k0 : o = none → W p l e R s m args below meth c H locs cells slots Q (F0 m (pc + 3) ls rest)) (k1 : ∀ q, o = some q → W p l e R s m args below meth c H locs cells slots Q (F0 m tgt ls rest)) : W p l e R s m args below meth c H locs cells slots Q (F0 m pc ls (va_rf o :: rest)) := by
  cases o with
  | none => exact lv_ifnonnullN hexec hb hdg (k0 rfl)
  | some q => exact lv_ifnonnull hexec hb hdg ht (k1 q rfl)
theorem q_max (B : Bx p m c cc nL s args own D cs lo) {index : Nat} {x y : Int32} (hl : Cond.methodLink own index Lib.Math.max.name ∈ T0) (hst : Cond.static Lib.Math.max.name ∈ T0) (hi : Cond.initialized "java/lang/Math" ∈ T0) (hco : Cond.code Lib.Math.max.name Lib.Math.max.code 2 (some .int) ∈ T0) (hsz : ls.size = nL) (hfr : 1 ≤ R.frames) (hlo : (rest.map fun v => v.category).sum + 13 ≤ R.locals) (hc : cells ≤ R.cells) (hs : slots ≤ R.slots) (hdg : decode cc pc = .ok (.invokestatic index, 3))
    (kk : W p l e R s m args below meth c H locs cells slots Q (F0 m (pc + 3) ls (.int (if x < y then y else x) :: rest))) : W p l e R s m args below meth c H locs cells slots Q (F0 m pc ls (.int y :: .int x :: rest)) :=
  va_mmax B.1.1 B.1.2.1 (B.1.2.2.1.trans hsz.symm) B.1.2.2.2.1 (B.ts hl) (B.ts hst) (B.ts hi) (B.ts hco) hfr hlo hc hs hdg kk
theorem q_min (B : Bx p m c cc nL s args own D cs lo) {index : Nat} {x y : Int32} (hl : Cond.methodLink own index Lib.Math.min.name ∈ T0) (hst : Cond.static Lib.Math.min.name ∈ T0) (hi : Cond.initialized "java/lang/Math" ∈ T0) (hco : Cond.code Lib.Math.min.name Lib.Math.min.code 2 (some .int) ∈ T0) (hsz : ls.size = nL) (hfr : 1 ≤ R.frames) (hlo : (rest.map fun v => v.category).sum + 13 ≤ R.locals) (hc : cells ≤ R.cells) (hs : slots ≤ R.slots) (hdg : decode cc pc = .ok (.invokestatic index, 3))
    (kk : W p l e R s m args below meth c H locs cells slots Q (F0 m (pc + 3) ls (.int (if y < x then y else x) :: rest))) : W p l e R s m args below meth c H locs cells slots Q (F0 m pc ls (.int y :: .int x :: rest)) :=
  va_mmin B.1.1 B.1.2.1 (B.1.2.2.1.trans hsz.symm) B.1.2.2.2.1 (B.ts hl) (B.ts hst) (B.ts hi) (B.ts hco) hfr hlo hc hs hdg kk
theorem q_abs (B : Bx p m c cc nL s args own D cs lo) {index : Nat} {x : Int32} (hl : Cond.methodLink own index Lib.Math.abs.name ∈ T0) (hst : Cond.static Lib.Math.abs.name ∈ T0) (hi : Cond.initialized "java/lang/Math" ∈ T0) (hco : Cond.code Lib.Math.abs.name Lib.Math.abs.code 1 (some .int) ∈ T0) (hsz : ls.size = nL) (hfr : 1 ≤ R.frames) (hlo : (rest.map fun v => v.category).sum + 13 ≤ R.locals) (hc : cells ≤ R.cells) (hs : slots ≤ R.slots) (hdg : decode cc pc = .ok (.invokestatic index, 3))
    (kk : W p l e R s m args below meth c H locs cells slots Q (F0 m (pc + 3) ls (.int (if 0 ≤ x then x else 0 - x) :: rest))) : W p l e R s m args below meth c H locs cells slots Q (F0 m pc ls (.int x :: rest)) :=
  va_mabs B.1.1 B.1.2.1 (B.1.2.2.1.trans hsz.symm) B.1.2.2.2.1 (B.ts hl) (B.ts hst) (B.ts hi) (B.ts hco) hfr hlo hc hs hdg kk
end CL
