section RW
variable {p : Program} {l : Launch} {e : Env} {R : Room} {s : State} {m : MethodId} {args : Array Value} {below : List Frame} {meth : Method} {c : Code} {H : Heap} {locs : List Loc} {cells slots : Nat} {Q : State → Prop}
variable {cc : ByteArray} {pc nL lo : Nat} {ls : Array Slot} {rest : List Value} {D : va_G} {cs : Nat → ClassId} {own : String} {S : HS}
theorem Bx.ts (B : Bx p m c cc nL s args own D cs lo) {w : Cond} (h : w ∈ T0) : w.before args s = true := B.1.2.2.2.2 w h
theorem hp.k (h : hp D cs lo S H) {a : Nat} (ha : a ∈ gL S) : ∃ k : Nat, ([] ++ va_pl (gL S) (cellOf cs S))[k]? = some (a, cellOf cs S a) := va_pl_get (X := []) (f := cellOf cs S) ha
theorem pl_eq {L : List Nat} {f g : Nat → va_E} (h : ∀ a, f a = g a) : ([] ++ va_pl L f : va_W) = [] ++ va_pl L g := congrArg (fun l => [] ++ l) (va_pl_congr h)
/-- a field read: I int, R reference; N: of a nest mate -/
theorem q_getI (B : Bx p m c cc nL s args own D cs lo) (h : Hx D cs lo s S H locs) {ci j code index N a : Nat} {C : String} {T : u_T} (hc : vwCl[ci]? = some (C, T, N)) (hin : ∀ w ∈ u_ws C T N, w ∈ T0) (hj : j < N) (hlink : Cond.fieldLink own index C (T j).2.1 (T j).2.2.1 ∈ T0) (hr : (T j).1 = C) (hs : (fsh ci)[j]? = some false) (hcode : 32 * ci + j = code) (h6 : ci < 6)
    (hdg : decode cc pc = .ok (.getfield index, 3)) (ha : a ∈ gL S) (hk : gK S a = ci)
    (kk : W p l e R s m args below meth c H locs cells slots Q (F0 m (pc + 3) ls (.int (gI S code a) :: rest))) : W p l e R s m args below meth c H locs cells slots Q (F0 m pc ls (.ref a :: rest)) := by
  obtain ⟨k, hk1⟩ := h.1.k ha
  rw [cell_o hk h6] at hk1
  subst hcode
  exact va_get B.1.1 B.1.2.1 B.1.2.2.2.2 hin B.1.2.2.2.1 B.2.1 h.1.1 k hk1 hc j hj (B.ts hlink) (fun x hx => by rw [hr] at hx; exact hx) (flds_I hs) hdg kk
theorem q_getR (B : Bx p m c cc nL s args own D cs lo) (h : Hx D cs lo s S H locs) {ci j code index N a : Nat} {C : String} {T : u_T} (hc : vwCl[ci]? = some (C, T, N)) (hin : ∀ w ∈ u_ws C T N, w ∈ T0) (hj : j < N) (hlink : Cond.fieldLink own index C (T j).2.1 (T j).2.2.1 ∈ T0) (hr : (T j).1 = C) (hs : (fsh ci)[j]? = some true) (hcode : 32 * ci + j = code) (h6 : ci < 6)
    (hdg : decode cc pc = .ok (.getfield index, 3)) (ha : a ∈ gL S) (hk : gK S a = ci)
    (kk : W p l e R s m args below meth c H locs cells slots Q (F0 m (pc + 3) ls (va_rf (gR S code a) :: rest))) : W p l e R s m args below meth c H locs cells slots Q (F0 m pc ls (.ref a :: rest)) := by
  obtain ⟨k, hk1⟩ := h.1.k ha
  rw [cell_o hk h6] at hk1
  subst hcode
  exact va_get B.1.1 B.1.2.1 B.1.2.2.2.2 hin B.1.2.2.2.1 B.2.1 h.1.1 k hk1 hc j hj (B.ts hlink) (fun x hx => by rw [hr] at hx; exact hx) (flds_R hs) hdg kk
theorem q_getIN (B : Bx p m c cc nL s args own D cs lo) (h : Hx D cs lo s S H locs) {ci j code index N a : Nat} {C host : String} {T : u_T} (hc : vwCl[ci]? = some (C, T, N)) (hin : ∀ w ∈ u_ws C T N, w ∈ T0) (hj : j < N) (hlink : Cond.fieldLinkNest own index C (T j).2.1 (T j).2.2.1 host ∈ T0) (hr : (T j).1 = C) (hs : (fsh ci)[j]? = some false) (hcode : 32 * ci + j = code) (h6 : ci < 6)
    (hdg : decode cc pc = .ok (.getfield index, 3)) (ha : a ∈ gL S) (hk : gK S a = ci)
    (kk : W p l e R s m args below meth c H locs cells slots Q (F0 m (pc + 3) ls (.int (gI S code a) :: rest))) : W p l e R s m args below meth c H locs cells slots Q (F0 m pc ls (.ref a :: rest)) := by
  obtain ⟨k, hk1⟩ := h.1.k ha
  rw [cell_o hk h6] at hk1
  subst hcode
  exact va_getN B.1.1 B.1.2.1 B.1.2.2.2.2 hin B.1.2.2.2.1 B.2.1 h.1.1 k hk1 hc j hj (B.ts hlink) (fun x hx => by rw [hr] at hx; exact hx) (flds_I hs) hdg kk
theorem q_getRN (B : Bx p m c cc nL s args own D cs lo) (h : Hx D cs lo s S H locs) {ci j code index N a : Nat} {C host : String} {T : u_T} (hc : vwCl[ci]? = some (C, T, N)) (hin : ∀ w ∈ u_ws C T N, w ∈ T0) (hj : j < N) (hlink : Cond.fieldLinkNest own index C (T j).2.1 (T j).2.2.1 host ∈ T0) (hr : (T j).1 = C) (hs : (fsh ci)[j]? = some true) (hcode : 32 * ci + j = code) (h6 : ci < 6)
    (hdg : decode cc pc = .ok (.getfield index, 3)) (ha : a ∈ gL S) (hk : gK S a = ci)
    (kk : W p l e R s m args below meth c H locs cells slots Q (F0 m (pc + 3) ls (va_rf (gR S code a) :: rest))) : W p l e R s m args below meth c H locs cells slots Q (F0 m pc ls (.ref a :: rest)) := by
  obtain ⟨k, hk1⟩ := h.1.k ha
  rw [cell_o hk h6] at hk1
  subst hcode
  exact va_getN B.1.1 B.1.2.1 B.1.2.2.2.2 hin B.1.2.2.2.1 B.2.1 h.1.1 k hk1 hc j hj (B.ts hlink) (fun x hx => by rw [hr] at hx; exact hx) (flds_R hs) hdg kk
theorem hp.put (h : hp D cs lo S H) {ci j a k : Nat} {v : Int32} {H1 : Heap} (ha : a ∈ gL S) (hk : gK S a = ci) (h6 : ci < 6) (hs : (fsh ci)[j]? = some false) (hk1 : ([] ++ va_pl (gL S) (cellOf cs S))[k]? = some (a, cellOf cs S a)) (hP : va_P D vwCl (([] ++ va_pl (gL S) (cellOf cs S)).set k (a, .inr (ci, (flds ci S a).set j (.int v)))) H1) (hD : va_D (fun q => lo ≤ q) (([] ++ va_pl (gL S) (cellOf cs S)).set k (a, .inr (ci, (flds ci S a).set j (.int v))))) : hp D cs lo (sI S (32 * ci + j) a v) H1 := by
  have e := (va_pl_set h.2 ha hk1 (e := .inr (ci, (flds ci S a).set j (.int v)))).trans (pl_eq (cell_sI (cs := cs) (v := v) hk h6 hs))
  rw [e] at hP hD
  exact ⟨hP, hD⟩
theorem hp.putR (h : hp D cs lo S H) {ci j a k : Nat} {v : Option Nat} {H1 : Heap} (ha : a ∈ gL S) (hk : gK S a = ci) (h6 : ci < 6) (hs : (fsh ci)[j]? = some true) (hk1 : ([] ++ va_pl (gL S) (cellOf cs S))[k]? = some (a, cellOf cs S a)) (hP : va_P D vwCl (([] ++ va_pl (gL S) (cellOf cs S)).set k (a, .inr (ci, (flds ci S a).set j (va_rf v)))) H1) (hD : va_D (fun q => lo ≤ q) (([] ++ va_pl (gL S) (cellOf cs S)).set k (a, .inr (ci, (flds ci S a).set j (va_rf v))))) : hp D cs lo (sR S (32 * ci + j) a v) H1 := by
  have e := (va_pl_set h.2 ha hk1 (e := .inr (ci, (flds ci S a).set j (va_rf v)))).trans (pl_eq (cell_sR (cs := cs) (v := v) hk h6 hs))
  rw [e] at hP hD
  exact ⟨hP, hD⟩
theorem q_putI (B : Bx p m c cc nL s args own D cs lo) (h : Hx D cs lo s S H locs) {ci j code index N a : Nat} {C : String} {T : u_T} (hc : vwCl[ci]? = some (C, T, N)) (hin : ∀ w ∈ u_ws C T N, w ∈ T0) (ty0 : Nat → FieldType) (hty : ∀ k, k < N → parseFieldDescriptor (T k).2.2.1 = some (ty0 k)) (hnm : ∀ a, a < N → ∀ b, b < N → a ≠ b → (T a).2.1 ≠ (T b).2.1) (hj : j < N) (hlink : Cond.fieldLink own index C (T j).2.1 (T j).2.2.1 ∈ T0) (hr : (T j).1 = C) (hfin : (T j).2.2.2 = false) (hs : (fsh ci)[j]? = some false) (hcode : 32 * ci + j = code) (h6 : ci < 6) {v : Int32} (hn : narrow (ty0 j) (.int v) = .int v) (hfit : fits (ty0 j) (.int v) = true)
    (hdg : decode cc pc = .ok (.putfield index, 3)) (ha : a ∈ gL S) (hk : gK S a = ci)
    (kk : ∀ (H1 : Heap) (locs1 : List Loc), Hx D cs lo s (sI S code a v) H1 locs1 → W p l e R s m args below meth c H1 locs1 cells slots Q (F0 m (pc + 3) ls rest)) : W p l e R s m args below meth c H locs cells slots Q (F0 m pc ls (.int v :: .ref a :: rest)) := by
  obtain ⟨k, hk0⟩ := h.1.k ha
  have hk1 := hk0
  rw [cell_o hk h6] at hk1
  subst hcode
  have hjl : j < (flds ci S a).length := by rw [flds_len]; exact (List.getElem?_eq_some_iff.mp hs).1
  exact va_put B.1.1 B.1.2.1 B.1.2.2.2.2 hin ty0 hty hnm B.1.2.2.2.1 B.2.1 h.1.1 h.1.2 h.2 k hk1 hc j hj (B.ts hlink) (fun x hx => by rw [hr] at hx; exact hx) hfin (hty j hj) hn hfit hjl hdg (fun H1 locs1 hP hD hS => kk H1 locs1 ⟨h.1.put ha hk h6 hs hk0 hP hD, hS⟩)
theorem q_putIN (B : Bx p m c cc nL s args own D cs lo) (h : Hx D cs lo s S H locs) {ci j code index N a : Nat} {C host : String} {T : u_T} (hc : vwCl[ci]? = some (C, T, N)) (hin : ∀ w ∈ u_ws C T N, w ∈ T0) (ty0 : Nat → FieldType) (hty : ∀ k, k < N → parseFieldDescriptor (T k).2.2.1 = some (ty0 k)) (hnm : ∀ a, a < N → ∀ b, b < N → a ≠ b → (T a).2.1 ≠ (T b).2.1) (hj : j < N) (hlink : Cond.fieldLinkNest own index C (T j).2.1 (T j).2.2.1 host ∈ T0) (hr : (T j).1 = C) (hfin : (T j).2.2.2 = false) (hs : (fsh ci)[j]? = some false) (hcode : 32 * ci + j = code) (h6 : ci < 6) {v : Int32} (hn : narrow (ty0 j) (.int v) = .int v) (hfit : fits (ty0 j) (.int v) = true)
    (hdg : decode cc pc = .ok (.putfield index, 3)) (ha : a ∈ gL S) (hk : gK S a = ci)
    (kk : ∀ (H1 : Heap) (locs1 : List Loc), Hx D cs lo s (sI S code a v) H1 locs1 → W p l e R s m args below meth c H1 locs1 cells slots Q (F0 m (pc + 3) ls rest)) : W p l e R s m args below meth c H locs cells slots Q (F0 m pc ls (.int v :: .ref a :: rest)) := by
  obtain ⟨k, hk0⟩ := h.1.k ha
  have hk1 := hk0
  rw [cell_o hk h6] at hk1
  subst hcode
  have hjl : j < (flds ci S a).length := by rw [flds_len]; exact (List.getElem?_eq_some_iff.mp hs).1
  exact va_putN B.1.1 B.1.2.1 B.1.2.2.2.2 hin ty0 hty hnm B.1.2.2.2.1 B.2.1 h.1.1 h.1.2 h.2 k hk1 hc j hj (B.ts hlink) (fun x hx => by rw [hr] at hx; exact hx) hfin (hty j hj) hn hfit hjl hdg (fun H1 locs1 hP hD hS => kk H1 locs1 ⟨h.1.put ha hk h6 hs hk0 hP hD, hS⟩)
theorem q_putIF (B : Bx p m c cc nL s args own D cs lo) (h : Hx D cs lo s S H locs) {ci j code index N a : Nat} {C : String} {T : u_T} (hc : vwCl[ci]? = some (C, T, N)) (hin : ∀ w ∈ u_ws C T N, w ∈ T0) (ty0 : Nat → FieldType) (hty : ∀ k, k < N → parseFieldDescriptor (T k).2.2.1 = some (ty0 k)) (hnm : ∀ a, a < N → ∀ b, b < N → a ≠ b → (T a).2.1 ≠ (T b).2.1) (hj : j < N) (hlink : Cond.fieldLink own index C (T j).2.1 (T j).2.2.1 ∈ T0) (hr : (T j).1 = C) (hfin : (T j).2.2.2 = true) (hin2 : meth.name = "<init>") (hdecl : (T j).1 = own) (hs : (fsh ci)[j]? = some false) (hcode : 32 * ci + j = code) (h6 : ci < 6) {v : Int32} (hn : narrow (ty0 j) (.int v) = .int v) (hfit : fits (ty0 j) (.int v) = true)
    (hdg : decode cc pc = .ok (.putfield index, 3)) (ha : a ∈ gL S) (hk : gK S a = ci)
    (kk : ∀ (H1 : Heap) (locs1 : List Loc), Hx D cs lo s (sI S code a v) H1 locs1 → W p l e R s m args below meth c H1 locs1 cells slots Q (F0 m (pc + 3) ls rest)) : W p l e R s m args below meth c H locs cells slots Q (F0 m pc ls (.int v :: .ref a :: rest)) := by
  obtain ⟨k, hk0⟩ := h.1.k ha
  have hk1 := hk0
  rw [cell_o hk h6] at hk1
  subst hcode
  have hjl : j < (flds ci S a).length := by rw [flds_len]; exact (List.getElem?_eq_some_iff.mp hs).1
  exact va_putF B.1.1 B.1.2.1 B.1.2.2.2.2 hin ty0 hty hnm B.1.2.2.2.1 B.2.1 h.1.1 h.1.2 h.2 k hk1 hc j hj (B.ts hlink) (fun x hx => by rw [hr] at hx; exact hx) hfin hin2 hdecl (hty j hj) hn hfit hjl hdg (fun H1 locs1 hP hD hS => kk H1 locs1 ⟨h.1.put ha hk h6 hs hk0 hP hD, hS⟩)
theorem q_putR (B : Bx p m c cc nL s args own D cs lo) (h : Hx D cs lo s S H locs) {ci j code index N a : Nat} {C : String} {T : u_T} (hc : vwCl[ci]? = some (C, T, N)) (hin : ∀ w ∈ u_ws C T N, w ∈ T0) (ty0 : Nat → FieldType) (hty : ∀ k, k < N → parseFieldDescriptor (T k).2.2.1 = some (ty0 k)) (hnm : ∀ a, a < N → ∀ b, b < N → a ≠ b → (T a).2.1 ≠ (T b).2.1) (hj : j < N) (hlink : Cond.fieldLink own index C (T j).2.1 (T j).2.2.1 ∈ T0) (hr : (T j).1 = C) (hfin : (T j).2.2.2 = false) (hs : (fsh ci)[j]? = some true) (hcode : 32 * ci + j = code) (h6 : ci < 6) {v : Option Nat} (hn : narrow (ty0 j) (va_rf v) = va_rf v) (hfit : fits (ty0 j) (va_rf v) = true)
    (hdg : decode cc pc = .ok (.putfield index, 3)) (ha : a ∈ gL S) (hk : gK S a = ci)
    (kk : ∀ (H1 : Heap) (locs1 : List Loc), Hx D cs lo s (sR S code a v) H1 locs1 → W p l e R s m args below meth c H1 locs1 cells slots Q (F0 m (pc + 3) ls rest)) : W p l e R s m args below meth c H locs cells slots Q (F0 m pc ls (va_rf v :: .ref a :: rest)) := by
  obtain ⟨k, hk0⟩ := h.1.k ha
  have hk1 := hk0
  rw [cell_o hk h6] at hk1
  subst hcode
  have hjl : j < (flds ci S a).length := by rw [flds_len]; exact (List.getElem?_eq_some_iff.mp hs).1
  exact va_put B.1.1 B.1.2.1 B.1.2.2.2.2 hin ty0 hty hnm B.1.2.2.2.1 B.2.1 h.1.1 h.1.2 h.2 k hk1 hc j hj (B.ts hlink) (fun x hx => by rw [hr] at hx; exact hx) hfin (hty j hj) hn hfit hjl hdg (fun H1 locs1 hP hD hS => kk H1 locs1 ⟨h.1.putR ha hk h6 hs hk0 hP hD, hS⟩)
theorem q_putRN (B : Bx p m c cc nL s args own D cs lo) (h : Hx D cs lo s S H locs) {ci j code index N a : Nat} {C host : String} {T : u_T} (hc : vwCl[ci]? = some (C, T, N)) (hin : ∀ w ∈ u_ws C T N, w ∈ T0) (ty0 : Nat → FieldType) (hty : ∀ k, k < N → parseFieldDescriptor (T k).2.2.1 = some (ty0 k)) (hnm : ∀ a, a < N → ∀ b, b < N → a ≠ b → (T a).2.1 ≠ (T b).2.1) (hj : j < N) (hlink : Cond.fieldLinkNest own index C (T j).2.1 (T j).2.2.1 host ∈ T0) (hr : (T j).1 = C) (hfin : (T j).2.2.2 = false) (hs : (fsh ci)[j]? = some true) (hcode : 32 * ci + j = code) (h6 : ci < 6) {v : Option Nat} (hn : narrow (ty0 j) (va_rf v) = va_rf v) (hfit : fits (ty0 j) (va_rf v) = true)
    (hdg : decode cc pc = .ok (.putfield index, 3)) (ha : a ∈ gL S) (hk : gK S a = ci)
    (kk : ∀ (H1 : Heap) (locs1 : List Loc), Hx D cs lo s (sR S code a v) H1 locs1 → W p l e R s m args below meth c H1 locs1 cells slots Q (F0 m (pc + 3) ls rest)) : W p l e R s m args below meth c H locs cells slots Q (F0 m pc ls (va_rf v :: .ref a :: rest)) := by
  obtain ⟨k, hk0⟩ := h.1.k ha
  have hk1 := hk0
  rw [cell_o hk h6] at hk1
  subst hcode
  have hjl : j < (flds ci S a).length := by rw [flds_len]; exact (List.getElem?_eq_some_iff.mp hs).1
  exact va_putN B.1.1 B.1.2.1 B.1.2.2.2.2 hin ty0 hty hnm B.1.2.2.2.1 B.2.1 h.1.1 h.1.2 h.2 k hk1 hc j hj (B.ts hlink) (fun x hx => by rw [hr] at hx; exact hx) hfin (hty j hj) hn hfit hjl hdg (fun H1 locs1 hP hD hS => kk H1 locs1 ⟨h.1.putR ha hk h6 hs hk0 hP hD, hS⟩)
theorem q_putRF (B : Bx p m c cc nL s args own D cs lo) (h : Hx D cs lo s S H locs) {ci j code index N a : Nat} {C : String} {T : u_T} (hc : vwCl[ci]? = some (C, T, N)) (hin : ∀ w ∈ u_ws C T N, w ∈ T0) (ty0 : Nat → FieldType) (hty : ∀ k, k < N → parseFieldDescriptor (T k).2.2.1 = some (ty0 k)) (hnm : ∀ a, a < N → ∀ b, b < N → a ≠ b → (T a).2.1 ≠ (T b).2.1) (hj : j < N) (hlink : Cond.fieldLink own index C (T j).2.1 (T j).2.2.1 ∈ T0) (hr : (T j).1 = C) (hfin : (T j).2.2.2 = true) (hin2 : meth.name = "<init>") (hdecl : (T j).1 = own) (hs : (fsh ci)[j]? = some true) (hcode : 32 * ci + j = code) (h6 : ci < 6) {v : Option Nat} (hn : narrow (ty0 j) (va_rf v) = va_rf v) (hfit : fits (ty0 j) (va_rf v) = true)
    (hdg : decode cc pc = .ok (.putfield index, 3)) (ha : a ∈ gL S) (hk : gK S a = ci)
    (kk : ∀ (H1 : Heap) (locs1 : List Loc), Hx D cs lo s (sR S code a v) H1 locs1 → W p l e R s m args below meth c H1 locs1 cells slots Q (F0 m (pc + 3) ls rest)) : W p l e R s m args below meth c H locs cells slots Q (F0 m pc ls (va_rf v :: .ref a :: rest)) := by
  obtain ⟨k, hk0⟩ := h.1.k ha
  have hk1 := hk0
  rw [cell_o hk h6] at hk1
  subst hcode
  have hjl : j < (flds ci S a).length := by rw [flds_len]; exact (List.getElem?_eq_some_iff.mp hs).1
  exact va_putF B.1.1 B.1.2.1 B.1.2.2.2.2 hin ty0 hty hnm B.1.2.2.2.1 B.2.1 h.1.1 h.1.2 h.2 k hk1 hc j hj (B.ts hlink) (fun x hx => by rw [hr] at hx; exact hx) hfin hin2 hdecl (hty j hj) hn hfit hjl hdg (fun H1 locs1 hP hD hS => kk H1 locs1 ⟨h.1.putR ha hk h6 hs hk0 hP hD, hS⟩)
/-- arrays -/
theorem q_iald (B : Bx p m c cc nL s args own D cs lo) (h : Hx D cs lo s S H locs) {a : Nat} {i : Int32} (hdg : decode cc pc = .ok (.iaload, 1)) (ha : a ∈ gL S) (hk : gK S a = 6) (hin : vp_in i (gN S a))
    (kk : W p l e R s m args below meth c H locs cells slots Q (F0 m (pc + 1) ls (.int (gA S a i.toNatClampNeg) :: rest))) : W p l e R s m args below meth c H locs cells slots Q (F0 m pc ls (.int i :: .ref a :: rest)) := by
  obtain ⟨k, hk1⟩ := h.1.k ha
  rw [cell_i hk (by decide) (by decide)] at hk1
  exact va_iald B.1.1 B.1.2.1 B.2.1 h.1.1 k 0 hk1 rfl hin hdg kk
theorem q_zald (B : Bx p m c cc nL s args own D cs lo) (h : Hx D cs lo s S H locs) {a : Nat} {i : Int32} (hdg : decode cc pc = .ok (.baload, 1)) (ha : a ∈ gL S) (hk : gK S a = 7) (hin : vp_in i (gN S a))
    (kk : W p l e R s m args below meth c H locs cells slots Q (F0 m (pc + 1) ls (.int (gA S a i.toNatClampNeg) :: rest))) : W p l e R s m args below meth c H locs cells slots Q (F0 m pc ls (.int i :: .ref a :: rest)) := by
  obtain ⟨k, hk1⟩ := h.1.k ha
  rw [cell_i hk (by decide) (by decide)] at hk1
  exact va_zald B.1.1 B.1.2.1 B.2.1 h.1.1 k 1 hk1 rfl hin hdg kk
theorem q_aald (B : Bx p m c cc nL s args own D cs lo) (h : Hx D cs lo s S H locs) {a kd : Nat} {C : String} {i : Int32} (h8 : 8 ≤ kd) (h11 : kd < 11) (ht : (tysOf cs)[kd - 6]? = some (cs kd, .object C)) (hdg : decode cc pc = .ok (.aaload, 1)) (ha : a ∈ gL S) (hk : gK S a = kd) (hin : vp_in i (gN S a))
    (kk : W p l e R s m args below meth c H locs cells slots Q (F0 m (pc + 1) ls (va_rf (gQ S a i.toNatClampNeg) :: rest))) : W p l e R s m args below meth c H locs cells slots Q (F0 m pc ls (.int i :: .ref a :: rest)) := by
  obtain ⟨k, hk1⟩ := h.1.k ha
  rw [cell_q hk h8 h11] at hk1
  exact va_aldq B.1.1 B.1.2.1 B.2.1 h.1.1 k (kd - 6) hk1 ht hin hdg kk
theorem q_lald (B : Bx p m c cc nL s args own D cs lo) (h : Hx D cs lo s S H locs) {a : Nat} {i : Int32} (hdg : decode cc pc = .ok (.laload, 1)) (ha : a ∈ gL S) (hk : gK S a = 11) (hin : vp_in i (gN S a))
    (kk : W p l e R s m args below meth c H locs cells slots Q (F0 m (pc + 1) ls (.long (gJ S a i.toNatClampNeg) :: rest))) : W p l e R s m args below meth c H locs cells slots Q (F0 m pc ls (.int i :: .ref a :: rest)) := by
  obtain ⟨k, hk1⟩ := h.1.k ha
  rw [cell_j hk] at hk1
  exact va_lald B.1.1 B.1.2.1 B.2.1 h.1.1 k 5 hk1 rfl hin hdg kk
theorem q_dald (B : Bx p m c cc nL s args own D cs lo) (h : Hx D cs lo s S H locs) {a : Nat} {i : Int32} (hdg : decode cc pc = .ok (.daload, 1)) (ha : a ∈ gL S) (hk : gK S a = 12) (hin : vp_in i (gN S a))
    (kk : W p l e R s m args below meth c H locs cells slots Q (F0 m (pc + 1) ls (.double (gD S a i.toNatClampNeg) :: rest))) : W p l e R s m args below meth c H locs cells slots Q (F0 m pc ls (.int i :: .ref a :: rest)) := by
  obtain ⟨k, hk1⟩ := h.1.k ha
  rw [cell_d hk] at hk1
  exact va_dald B.1.1 B.1.2.1 B.2.1 h.1.1 k 6 hk1 rfl hin hdg kk
theorem q_alen (B : Bx p m c cc nL s args own D cs lo) (h : Hx D cs lo s S H locs) {a : Nat} (hdg : decode cc pc = .ok (.arraylength, 1)) (ha : a ∈ gL S) (h6 : 6 ≤ gK S a) (h13 : gK S a < 13)
    (kk : W p l e R s m args below meth c H locs cells slots Q (F0 m (pc + 1) ls (.int (nI (gN S a)) :: rest))) : W p l e R s m args below meth c H locs cells slots Q (F0 m pc ls (.ref a :: rest)) := by
  obtain ⟨k, hk1⟩ := h.1.k ha
  obtain ⟨kd, hk⟩ : ∃ kd, gK S a = kd := ⟨_, rfl⟩
  rw [hk] at h6 h13
  rcases (show kd = 6 ∨ kd = 7 ∨ kd = 8 ∨ kd = 9 ∨ kd = 10 ∨ kd = 11 ∨ kd = 12 by omega) with rfl | rfl | rfl | rfl | rfl | rfl | rfl
  · rw [cell_i hk (by decide) (by decide)] at hk1
    exact va_alen B.1.1 B.1.2.1 B.2.1 h.1.1 k 0 hk1 (ty := .int) rfl rfl hdg kk
  · rw [cell_i hk (by decide) (by decide)] at hk1
    exact va_alen B.1.1 B.1.2.1 B.2.1 h.1.1 k 1 hk1 (ty := .boolean) rfl rfl hdg kk
  · rw [cell_q hk (by decide) (by decide)] at hk1
    exact va_alen B.1.1 B.1.2.1 B.2.1 h.1.1 k 2 hk1 (ty := .object RX0) rfl rfl hdg kk
  · rw [cell_q hk (by decide) (by decide)] at hk1
    exact va_alen B.1.1 B.1.2.1 B.2.1 h.1.1 k 3 hk1 (ty := .object RX2) rfl rfl hdg kk
  · rw [cell_q hk (by decide) (by decide)] at hk1
    exact va_alen B.1.1 B.1.2.1 B.2.1 h.1.1 k 4 hk1 (ty := .object RX3) rfl rfl hdg kk
  · rw [cell_j hk] at hk1
    exact va_alen B.1.1 B.1.2.1 B.2.1 h.1.1 k 5 hk1 (ty := .long) rfl rfl hdg kk
  · rw [cell_d hk] at hk1
    exact va_alen B.1.1 B.1.2.1 B.2.1 h.1.1 k 6 hk1 (ty := .double) rfl rfl hdg kk
theorem q_iast (B : Bx p m c cc nL s args own D cs lo) (h : Hx D cs lo s S H locs) {a : Nat} {i x : Int32} (hdg : decode cc pc = .ok (.iastore, 1)) (ha : a ∈ gL S) (hk : gK S a = 6) (hin : vp_in i (gN S a))
    (kk : ∀ (H1 : Heap) (locs1 : List Loc), Hx D cs lo s (sA S a i.toNatClampNeg x) H1 locs1 → W p l e R s m args below meth c H1 locs1 cells slots Q (F0 m (pc + 1) ls rest)) : W p l e R s m args below meth c H locs cells slots Q (F0 m pc ls (.int x :: .int i :: .ref a :: rest)) := by
  obtain ⟨k, hk0⟩ := h.1.k ha
  have hk1 := hk0
  rw [cell_i hk (by decide) (by decide)] at hk1
  refine va_iast B.1.1 B.1.2.1 B.2.1 h.1.1 h.1.2 h.2 k 0 hk1 rfl hin hdg (fun H1 locs1 hP hD hS => ?_)
  have e := (va_pl_set h.1.2 ha hk0 (e := .inl (cs 6, gN S a, .inl (upd (gA S a) i.toNatClampNeg x)))).trans (pl_eq (cell_sA (cs := cs) hk (by decide) (by decide)))
  rw [e] at hP hD
  exact kk H1 locs1 ⟨⟨hP, hD⟩, hS⟩
theorem q_zast (B : Bx p m c cc nL s args own D cs lo) (h : Hx D cs lo s S H locs) {a : Nat} {i x : Int32} (hx : vp_nar .boolean x = x) (hdg : decode cc pc = .ok (.bastore, 1)) (ha : a ∈ gL S) (hk : gK S a = 7) (hin : vp_in i (gN S a))
    (kk : ∀ (H1 : Heap) (locs1 : List Loc), Hx D cs lo s (sA S a i.toNatClampNeg x) H1 locs1 → W p l e R s m args below meth c H1 locs1 cells slots Q (F0 m (pc + 1) ls rest)) : W p l e R s m args below meth c H locs cells slots Q (F0 m pc ls (.int x :: .int i :: .ref a :: rest)) := by
  obtain ⟨k, hk0⟩ := h.1.k ha
  have hk1 := hk0
  rw [cell_i hk (by decide) (by decide)] at hk1
  refine va_zast B.1.1 B.1.2.1 B.2.1 h.1.1 h.1.2 h.2 k 1 hk1 rfl hin hdg (fun H1 locs1 hP hD hS => ?_)
  rw [hx] at hP hD
  have e := (va_pl_set h.1.2 ha hk0 (e := .inl (cs 7, gN S a, .inl (upd (gA S a) i.toNatClampNeg x)))).trans (pl_eq (cell_sA (cs := cs) hk (by decide) (by decide)))
  rw [e] at hP hD
  exact kk H1 locs1 ⟨⟨hP, hD⟩, hS⟩
theorem q_last (B : Bx p m c cc nL s args own D cs lo) (h : Hx D cs lo s S H locs) {a : Nat} {i : Int32} {x : Int64} (hdg : decode cc pc = .ok (.lastore, 1)) (ha : a ∈ gL S) (hk : gK S a = 11) (hin : vp_in i (gN S a))
    (kk : ∀ (H1 : Heap) (locs1 : List Loc), Hx D cs lo s (sJ S a i.toNatClampNeg x) H1 locs1 → W p l e R s m args below meth c H1 locs1 cells slots Q (F0 m (pc + 1) ls rest)) : W p l e R s m args below meth c H locs cells slots Q (F0 m pc ls (.long x :: .int i :: .ref a :: rest)) := by
  obtain ⟨k, hk0⟩ := h.1.k ha
  have hk1 := hk0
  rw [cell_j hk] at hk1
  refine va_last B.1.1 B.1.2.1 B.2.1 h.1.1 h.1.2 h.2 k 5 hk1 rfl hin hdg (fun H1 locs1 hP hD hS => ?_)
  have e := (va_pl_set h.1.2 ha hk0 (e := .inl (cs 11, gN S a, .inr (.inl (vp_updL (gJ S a) i.toNatClampNeg x))))).trans (pl_eq (cell_sJ (cs := cs) hk))
  rw [e] at hP hD
  exact kk H1 locs1 ⟨⟨hP, hD⟩, hS⟩
theorem q_dast (B : Bx p m c cc nL s args own D cs lo) (h : Hx D cs lo s S H locs) {a : Nat} {i : Int32} {x : UInt64} (hdg : decode cc pc = .ok (.dastore, 1)) (ha : a ∈ gL S) (hk : gK S a = 12) (hin : vp_in i (gN S a))
    (kk : ∀ (H1 : Heap) (locs1 : List Loc), Hx D cs lo s (sD S a i.toNatClampNeg x) H1 locs1 → W p l e R s m args below meth c H1 locs1 cells slots Q (F0 m (pc + 1) ls rest)) : W p l e R s m args below meth c H locs cells slots Q (F0 m pc ls (.double x :: .int i :: .ref a :: rest)) := by
  obtain ⟨k, hk0⟩ := h.1.k ha
  have hk1 := hk0
  rw [cell_d hk] at hk1
  refine va_dast B.1.1 B.1.2.1 B.2.1 h.1.1 h.1.2 h.2 k 6 hk1 rfl hin hdg (fun H1 locs1 hP hD hS => ?_)
  have e := (va_pl_set h.1.2 ha hk0 (e := .inl (cs 12, gN S a, .inr (.inr (.inr (.inl (vf_upd (gD S a) i.toNatClampNeg x))))))).trans (pl_eq (cell_sD (cs := cs) hk))
  rw [e] at hP hD
  exact kk H1 locs1 ⟨⟨hP, hD⟩, hS⟩
theorem q_aast (B : Bx p m c cc nL s args own D cs lo) (h : Hx D cs lo s S H locs) {a v kd ci : Nat} {r : vw_C} {i : Int32} (h8 : 8 ≤ kd) (h11 : kd < 11) (h6 : ci < 6) (hc : vwCl[ci]? = some r) (ht : (tysOf cs)[kd - 6]? = some (cs kd, .object r.1)) (hdg : decode cc pc = .ok (.aastore, 1)) (ha : a ∈ gL S) (hk : gK S a = kd) (hv : v ∈ gL S) (hkv : gK S v = ci) (hin : vp_in i (gN S a))
    (kk : ∀ (H1 : Heap) (locs1 : List Loc), Hx D cs lo s (sQ S a i.toNatClampNeg (some v)) H1 locs1 → W p l e R s m args below meth c H1 locs1 cells slots Q (F0 m (pc + 1) ls rest)) : W p l e R s m args below meth c H locs cells slots Q (F0 m pc ls (.ref v :: .int i :: .ref a :: rest)) := by
  obtain ⟨k, hk0⟩ := h.1.k ha
  have hk1 := hk0
  rw [cell_q hk h8 h11] at hk1
  obtain ⟨kv, hv1⟩ := h.1.k hv
  rw [cell_o hkv h6] at hv1
  refine va_astq B.1.1 B.1.2.1 B.2.1 h.1.1 h.1.2 h.2 k (kd - 6) kv ci hk1 ht hv1 hc hin hdg (fun H1 locs1 hP hD hS => ?_)
  have e := (va_pl_set h.1.2 ha hk0 (e := .inl (cs kd, gN S a, .inr (.inr (.inr (.inr (va_up (gQ S a) i.toNatClampNeg (some v)))))))).trans (pl_eq (cell_sQ (cs := cs) hk h8 h11))
  rw [e] at hP hD
  exact kk H1 locs1 ⟨⟨hP, hD⟩, hS⟩
/-- new things -/
theorem hp.new (h : hp D cs lo S H) {k n q : Nat} {x : va_E} {H1 : Heap} (hx : ∀ b, va_up (cellOf cs S) q x b = cellOf cs (nw S k n q) b) (hP : va_P D vwCl (([] ++ va_pl (gL S) (cellOf cs S)) ++ [(q, x)]) H1) (hD : va_D (fun q => lo ≤ q) (([] ++ va_pl (gL S) (cellOf cs S)) ++ [(q, x)])) : q ∉ gL S ∧ hp D cs lo (nw S k n q) H1 := by
  have hq : q ∉ gL S := va_pl_fresh2 hD
  have e : (([] ++ va_pl (gL S) (cellOf cs S)) ++ [(q, x)] : va_W) = [] ++ va_pl (gL (nw S k n q)) (cellOf cs (nw S k n q)) := by
    rw [List.append_assoc, va_pl_push hq]
    exact pl_eq hx
  rw [e] at hP hD
  exact ⟨hq, hP, hD⟩
theorem q_new (B : Bx p m c cc nL s args own D cs lo) (h : Hx D cs lo s S H locs) {ci index N : Nat} {C : String} {T : u_T} (hc : vwCl[ci]? = some (C, T, N)) (hin : ∀ w ∈ u_ws C T N, w ∈ T0) (ty0 : Nat → FieldType) (hty : ∀ k, k < N → parseFieldDescriptor (T k).2.2.1 = some (ty0 k)) (hcl : Cond.classLink own index C ∈ T0) (hinst : Cond.instantiable C N ∈ T0) (hini : Cond.initialized C ∈ T0) (h6 : ci < 6) (hfs : ∀ j, j < N → defaultValue (ty0 j) = vp_V (fs0 ci) j) (hcells : cells + 1 ≤ R.cells) (hslots : slots + N ≤ R.slots) (hdg : decode cc pc = .ok (.new index, 3))
    (kk : ∀ (q : Nat) (H1 : Heap), q ∉ gL S → Hx D cs lo s (nw S ci 0 q) H1 locs → W p l e R s m args below meth c H1 locs (cells + 1) (slots + N) Q (F0 m (pc + 3) ls (.ref q :: rest))) : W p l e R s m args below meth c H locs cells slots Q (F0 m pc ls rest) :=
  va_new B.1.1 B.1.2.1 B.1.2.2.2.2 hin ty0 hty B.1.2.2.2.1 (B.ts hcl) (B.ts hinst) (B.ts hini) B.2.1 h.1.1 h.1.2 h.2 (fun q hq => Nat.le_trans B.2.2.1 hq) hc hfs hcells hslots hdg (fun q H1 hP hD hS => by
    obtain ⟨hq, h1⟩ := h.1.new (k := ci) (n := 0) (cell_no h6) hP hD
    exact kk q H1 hq ⟨h1, hS⟩)
theorem q_newi (B : Bx p m c cc nL s args own D cs lo) (h : Hx D cs lo s S H locs) {n : Int32} {N' : Nat} (harr : Cond.arrayClass .int ∈ T0) (hn : ¬ n < 0) (hN : n.toNatClampNeg = N') (hbytes : N' * componentBytes .int ≤ 536870912) (hcells : cells + 1 ≤ R.cells) (hslots : slots + N' ≤ R.slots) (hdg : decode cc pc = .ok (.newarray .int, 2))
    (kk : ∀ (q : Nat) (H1 : Heap), q ∉ gL S → Hx D cs lo s (nw S 6 N' q) H1 locs → W p l e R s m args below meth c H1 locs (cells + 1) (slots + N') Q (F0 m (pc + 2) ls (.ref q :: rest))) : W p l e R s m args below meth c H locs cells slots Q (F0 m pc ls (.int n :: rest)) :=
  va_newa (atype := .int) B.1.1 B.1.2.1 (B.ts harr) rfl B.2.1 h.1.1 h.1.2 h.2 (fun q hq => Nat.le_trans B.2.2.1 hq) (a0 := (N', .inl (fun _ => 0))) (fun cA => rfl) hn hN hbytes hcells hslots hdg (fun q cA H1 hK hP hD hS => by
    have e1 := (hK.2 7 (cA, .int) rfl).2
    have e2 := (hK.2 0 (cs 6, .int) rfl).2
    have e : cA = cs 6 := Option.some.inj (e1.symm.trans e2)
    subst e
    obtain ⟨hq, h1⟩ := h.1.new (k := 6) (n := N') (cell_ni (by decide) (by decide)) hP hD
    exact kk q H1 hq ⟨h1, hS⟩)
theorem q_newz (B : Bx p m c cc nL s args own D cs lo) (h : Hx D cs lo s S H locs) {n : Int32} {N' : Nat} (harr : Cond.arrayClass .boolean ∈ T0) (hn : ¬ n < 0) (hN : n.toNatClampNeg = N') (hbytes : N' * componentBytes .boolean ≤ 536870912) (hcells : cells + 1 ≤ R.cells) (hslots : slots + N' ≤ R.slots) (hdg : decode cc pc = .ok (.newarray .boolean, 2))
    (kk : ∀ (q : Nat) (H1 : Heap), q ∉ gL S → Hx D cs lo s (nw S 7 N' q) H1 locs → W p l e R s m args below meth c H1 locs (cells + 1) (slots + N') Q (F0 m (pc + 2) ls (.ref q :: rest))) : W p l e R s m args below meth c H locs cells slots Q (F0 m pc ls (.int n :: rest)) :=
  va_newa (atype := .boolean) B.1.1 B.1.2.1 (B.ts harr) rfl B.2.1 h.1.1 h.1.2 h.2 (fun q hq => Nat.le_trans B.2.2.1 hq) (a0 := (N', .inl (fun _ => 0))) (fun cA => rfl) hn hN hbytes hcells hslots hdg (fun q cA H1 hK hP hD hS => by
    have e1 := (hK.2 7 (cA, .boolean) rfl).2
    have e2 := (hK.2 1 (cs 7, .boolean) rfl).2
    have e : cA = cs 7 := Option.some.inj (e1.symm.trans e2)
    subst e
    obtain ⟨hq, h1⟩ := h.1.new (k := 7) (n := N') (cell_ni (by decide) (by decide)) hP hD
    exact kk q H1 hq ⟨h1, hS⟩)
theorem q_newj (B : Bx p m c cc nL s args own D cs lo) (h : Hx D cs lo s S H locs) {n : Int32} {N' : Nat} (harr : Cond.arrayClass .long ∈ T0) (hn : ¬ n < 0) (hN : n.toNatClampNeg = N') (hbytes : N' * componentBytes .long ≤ 536870912) (hcells : cells + 1 ≤ R.cells) (hslots : slots + N' ≤ R.slots) (hdg : decode cc pc = .ok (.newarray .long, 2))
    (kk : ∀ (q : Nat) (H1 : Heap), q ∉ gL S → Hx D cs lo s (nw S 11 N' q) H1 locs → W p l e R s m args below meth c H1 locs (cells + 1) (slots + N') Q (F0 m (pc + 2) ls (.ref q :: rest))) : W p l e R s m args below meth c H locs cells slots Q (F0 m pc ls (.int n :: rest)) :=
  va_newa (atype := .long) B.1.1 B.1.2.1 (B.ts harr) rfl B.2.1 h.1.1 h.1.2 h.2 (fun q hq => Nat.le_trans B.2.2.1 hq) (a0 := (N', .inr (.inl (fun _ => 0)))) (fun cA => rfl) hn hN hbytes hcells hslots hdg (fun q cA H1 hK hP hD hS => by
    have e1 := (hK.2 7 (cA, .long) rfl).2
    have e2 := (hK.2 5 (cs 11, .long) rfl).2
    have e : cA = cs 11 := Option.some.inj (e1.symm.trans e2)
    subst e
    obtain ⟨hq, h1⟩ := h.1.new (k := 11) (n := N') cell_nj hP hD
    exact kk q H1 hq ⟨h1, hS⟩)
theorem q_newd (B : Bx p m c cc nL s args own D cs lo) (h : Hx D cs lo s S H locs) {n : Int32} {N' : Nat} (harr : Cond.arrayClass .double ∈ T0) (hn : ¬ n < 0) (hN : n.toNatClampNeg = N') (hbytes : N' * componentBytes .double ≤ 536870912) (hcells : cells + 1 ≤ R.cells) (hslots : slots + N' ≤ R.slots) (hdg : decode cc pc = .ok (.newarray .double, 2))
    (kk : ∀ (q : Nat) (H1 : Heap), q ∉ gL S → Hx D cs lo s (nw S 12 N' q) H1 locs → W p l e R s m args below meth c H1 locs (cells + 1) (slots + N') Q (F0 m (pc + 2) ls (.ref q :: rest))) : W p l e R s m args below meth c H locs cells slots Q (F0 m pc ls (.int n :: rest)) :=
  va_newa (atype := .double) B.1.1 B.1.2.1 (B.ts harr) rfl B.2.1 h.1.1 h.1.2 h.2 (fun q hq => Nat.le_trans B.2.2.1 hq) (a0 := (N', .inr (.inr (.inr (.inl (fun _ => 0)))))) (fun cA => rfl) hn hN hbytes hcells hslots hdg (fun q cA H1 hK hP hD hS => by
    have e1 := (hK.2 7 (cA, .double) rfl).2
    have e2 := (hK.2 6 (cs 12, .double) rfl).2
    have e : cA = cs 12 := Option.some.inj (e1.symm.trans e2)
    subst e
    obtain ⟨hq, h1⟩ := h.1.new (k := 12) (n := N') cell_nd hP hD
    exact kk q H1 hq ⟨h1, hS⟩)
theorem q_newq (B : Bx p m c cc nL s args own D cs lo) (h : Hx D cs lo s S H locs) {n : Int32} {N' kd index : Nat} {C : String} (h8 : 8 ≤ kd) (h11 : kd < 11) (ht : (tysOf cs)[kd - 6]? = some (cs kd, .object C)) (hcl : Cond.classLink own index C ∈ T0) (hover : va_AO C s) (hn : ¬ n < 0) (hN : n.toNatClampNeg = N') (hbytes : N' * 4 ≤ 536870912) (hcells : cells + 1 ≤ R.cells) (hslots : slots + N' ≤ R.slots) (hdg : decode cc pc = .ok (.anewarray index, 3))
    (kk : ∀ (q : Nat) (H1 : Heap), q ∉ gL S → Hx D cs lo s (nw S kd N' q) H1 locs → W p l e R s m args below meth c H1 locs (cells + 1) (slots + N') Q (F0 m (pc + 3) ls (.ref q :: rest))) : W p l e R s m args below meth c H locs cells slots Q (F0 m pc ls (.int n :: rest)) :=
  va_newq B.1.1 B.1.2.1 B.1.2.2.2.1 (B.ts hcl) hover B.2.1 h.1.1 h.1.2 h.2 (fun q hq => Nat.le_trans B.2.2.1 hq) hn hN hbytes hcells hslots hdg (fun q cA H1 hK hP hD hS => by
    obtain ⟨_, _, -, -, -, e1⟩ := (hK.2 7 (cA, .object C) rfl).2
    obtain ⟨_, _, -, -, -, e2⟩ := (B.2.1.2 (kd - 6) (cs kd, .object C) ht).2
    have e : cA = cs kd := Option.some.inj (e1.symm.trans e2)
    subst e
    obtain ⟨hq, h1⟩ := h.1.new (k := kd) (n := N') (cell_nq h8 h11) hP hD
    exact kk q H1 hq ⟨h1, hS⟩)
end RW
