/-! The heap of this claim as maps: fields by (code, address), code = 32 * class + place; arrays by (address, index); kinds: 0..5 the classes of vwCl, 6 int[], 7 boolean[], 8 Banner[], 9 Printer[], 10 Strip[], 11 long[], 12 double[] -/
def warmW : Cond → Bool
  | .fieldLinkNest _ _ _ _ _ _ => true
  | .methodLinkNest _ _ _ _ => true
  | .castable _ _ => true
  | .declares _ => true
  | w => goodWord w
theorem warm_spec {w : Cond} (h : warmW w = true) {s U : State} {a a' : Array Value} (hW : s.WarmedH U.vm) (hb : w.before a s = true) : w.before a' U = true := by
  cases w <;> first
    | exact word_at hW (good_of_word h) hb
    | exact (va_Nw.warmF hW (va_Nw.of rfl hb)).use rfl
    | exact (va_Nw.warmM hW (va_Nw.of rfl hb)).use rfl
    | exact (va_Nw.warmC hW (va_Nw.of rfl hb)).use rfl
    | exact (va_Nw.warmD hW (va_Nw.of rfl hb)).use rfl
def T0 : List Cond := lw_tbl.filter warmW
theorem T0_warm {w : Cond} (h : w ∈ T0) {s U : State} {a a' : Array Value} (hW : s.WarmedH U.vm) (hb : w.before a s = true) : w.before a' U = true := warm_spec (List.mem_filter.mp h).2 hW hb
theorem T0_mem {w : Cond} {i : Nat} (h : lw_tbl[i]? = some w) (hw : warmW w = true) : w ∈ T0 := List.mem_filter.mpr ⟨List.mem_of_getElem? h, hw⟩
abbrev HS : Type := (Nat → Nat → Int32) × (Nat → Nat → Option Nat) × (Nat → Nat → Int32) × (Nat → Nat → Option Nat) × (Nat → Nat → Int64) × (Nat → Nat → UInt64) × (Nat → Nat) × (Nat → Nat) × List Nat
def gI (S : HS) (f a : Nat) : Int32 := S.1 f a
def gR (S : HS) (f a : Nat) : Option Nat := S.2.1 f a
def gA (S : HS) (a i : Nat) : Int32 := S.2.2.1 a i
def gQ (S : HS) (a i : Nat) : Option Nat := S.2.2.2.1 a i
def gJ (S : HS) (a i : Nat) : Int64 := S.2.2.2.2.1 a i
def gD (S : HS) (a i : Nat) : UInt64 := S.2.2.2.2.2.1 a i
def gK (S : HS) (a : Nat) : Nat := S.2.2.2.2.2.2.1 a
def gN (S : HS) (a : Nat) : Nat := S.2.2.2.2.2.2.2.1 a
def gL (S : HS) : List Nat := S.2.2.2.2.2.2.2.2
def sI (S : HS) (f a : Nat) (v : Int32) : HS := (fun g b => if g = f ∧ b = a then v else gI S g b, gR S, gA S, gQ S, gJ S, gD S, gK S, gN S, gL S)
def sR (S : HS) (f a : Nat) (v : Option Nat) : HS := (gI S, fun g b => if g = f ∧ b = a then v else gR S g b, gA S, gQ S, gJ S, gD S, gK S, gN S, gL S)
def sA (S : HS) (a i : Nat) (v : Int32) : HS := (gI S, gR S, fun b j => if b = a ∧ j = i then v else gA S b j, gQ S, gJ S, gD S, gK S, gN S, gL S)
def sQ (S : HS) (a i : Nat) (v : Option Nat) : HS := (gI S, gR S, gA S, fun b j => if b = a ∧ j = i then v else gQ S b j, gJ S, gD S, gK S, gN S, gL S)
def sJ (S : HS) (a i : Nat) (v : Int64) : HS := (gI S, gR S, gA S, gQ S, fun b j => if b = a ∧ j = i then v else gJ S b j, gD S, gK S, gN S, gL S)
def sD (S : HS) (a i : Nat) (v : UInt64) : HS := (gI S, gR S, gA S, gQ S, gJ S, fun b j => if b = a ∧ j = i then v else gD S b j, gK S, gN S, gL S)
def nw (S : HS) (k n a : Nat) : HS := (fun g b => if b = a then 0 else gI S g b, fun g b => if b = a then none else gR S g b, fun b j => if b = a then 0 else gA S b j, fun b j => if b = a then none else gQ S b j, fun b j => if b = a then 0 else gJ S b j, fun b j => if b = a then 0 else gD S b j, fun b => if b = a then k else gK S b, fun b => if b = a then n else gN S b, gL S ++ [a])

theorem gI_sI (S : HS) (f a : Nat) (v : Int32) (g b : Nat) : gI (sI S f a v) g b = if g = f ∧ b = a then v else gI S g b := rfl
theorem gR_sI (S : HS) (f a : Nat) (v : Int32) (g b : Nat) : gR (sI S f a v) g b = gR S g b := rfl
theorem gA_sI (S : HS) (f a : Nat) (v : Int32) (b j : Nat) : gA (sI S f a v) b j = gA S b j := rfl
theorem gQ_sI (S : HS) (f a : Nat) (v : Int32) (b j : Nat) : gQ (sI S f a v) b j = gQ S b j := rfl
theorem gJ_sI (S : HS) (f a : Nat) (v : Int32) (b j : Nat) : gJ (sI S f a v) b j = gJ S b j := rfl
theorem gD_sI (S : HS) (f a : Nat) (v : Int32) (b j : Nat) : gD (sI S f a v) b j = gD S b j := rfl
theorem gK_sI (S : HS) (f a : Nat) (v : Int32) (b : Nat) : gK (sI S f a v) b = gK S b := rfl
theorem gN_sI (S : HS) (f a : Nat) (v : Int32) (b : Nat) : gN (sI S f a v) b = gN S b := rfl
theorem gL_sI (S : HS) (f a : Nat) (v : Int32) : gL (sI S f a v) = gL S := rfl
theorem gI_sR (S : HS) (f a : Nat) (v : Option Nat) (g b : Nat) : gI (sR S f a v) g b = gI S g b := rfl
theorem gR_sR (S : HS) (f a : Nat) (v : Option Nat) (g b : Nat) : gR (sR S f a v) g b = if g = f ∧ b = a then v else gR S g b := rfl
theorem gA_sR (S : HS) (f a : Nat) (v : Option Nat) (b j : Nat) : gA (sR S f a v) b j = gA S b j := rfl
theorem gQ_sR (S : HS) (f a : Nat) (v : Option Nat) (b j : Nat) : gQ (sR S f a v) b j = gQ S b j := rfl
theorem gJ_sR (S : HS) (f a : Nat) (v : Option Nat) (b j : Nat) : gJ (sR S f a v) b j = gJ S b j := rfl
theorem gD_sR (S : HS) (f a : Nat) (v : Option Nat) (b j : Nat) : gD (sR S f a v) b j = gD S b j := rfl
theorem gK_sR (S : HS) (f a : Nat) (v : Option Nat) (b : Nat) : gK (sR S f a v) b = gK S b := rfl
theorem gN_sR (S : HS) (f a : Nat) (v : Option Nat) (b : Nat) : gN (sR S f a v) b = gN S b := rfl
theorem gL_sR (S : HS) (f a : Nat) (v : Option Nat) : gL (sR S f a v) = gL S := rfl
theorem gI_sA (S : HS) (a i : Nat) (v : Int32) (g b : Nat) : gI (sA S a i v) g b = gI S g b := rfl
theorem gR_sA (S : HS) (a i : Nat) (v : Int32) (g b : Nat) : gR (sA S a i v) g b = gR S g b := rfl
theorem gA_sA (S : HS) (a i : Nat) (v : Int32) (b j : Nat) : gA (sA S a i v) b j = if b = a ∧ j = i then v else gA S b j := rfl
theorem gQ_sA (S : HS) (a i : Nat) (v : Int32) (b j : Nat) : gQ (sA S a i v) b j = gQ S b j := rfl
theorem gJ_sA (S : HS) (a i : Nat) (v : Int32) (b j : Nat) : gJ (sA S a i v) b j = gJ S b j := rfl
theorem gD_sA (S : HS) (a i : Nat) (v : Int32) (b j : Nat) : gD (sA S a i v) b j = gD S b j := rfl
theorem gK_sA (S : HS) (a i : Nat) (v : Int32) (b : Nat) : gK (sA S a i v) b = gK S b := rfl
theorem gN_sA (S : HS) (a i : Nat) (v : Int32) (b : Nat) : gN (sA S a i v) b = gN S b := rfl
theorem gL_sA (S : HS) (a i : Nat) (v : Int32) : gL (sA S a i v) = gL S := rfl
theorem gI_sQ (S : HS) (a i : Nat) (v : Option Nat) (g b : Nat) : gI (sQ S a i v) g b = gI S g b := rfl
theorem gR_sQ (S : HS) (a i : Nat) (v : Option Nat) (g b : Nat) : gR (sQ S a i v) g b = gR S g b := rfl
theorem gA_sQ (S : HS) (a i : Nat) (v : Option Nat) (b j : Nat) : gA (sQ S a i v) b j = gA S b j := rfl
theorem gQ_sQ (S : HS) (a i : Nat) (v : Option Nat) (b j : Nat) : gQ (sQ S a i v) b j = if b = a ∧ j = i then v else gQ S b j := rfl
theorem gJ_sQ (S : HS) (a i : Nat) (v : Option Nat) (b j : Nat) : gJ (sQ S a i v) b j = gJ S b j := rfl
theorem gD_sQ (S : HS) (a i : Nat) (v : Option Nat) (b j : Nat) : gD (sQ S a i v) b j = gD S b j := rfl
theorem gK_sQ (S : HS) (a i : Nat) (v : Option Nat) (b : Nat) : gK (sQ S a i v) b = gK S b := rfl
theorem gN_sQ (S : HS) (a i : Nat) (v : Option Nat) (b : Nat) : gN (sQ S a i v) b = gN S b := rfl
theorem gL_sQ (S : HS) (a i : Nat) (v : Option Nat) : gL (sQ S a i v) = gL S := rfl
theorem gI_sJ (S : HS) (a i : Nat) (v : Int64) (g b : Nat) : gI (sJ S a i v) g b = gI S g b := rfl
theorem gR_sJ (S : HS) (a i : Nat) (v : Int64) (g b : Nat) : gR (sJ S a i v) g b = gR S g b := rfl
theorem gA_sJ (S : HS) (a i : Nat) (v : Int64) (b j : Nat) : gA (sJ S a i v) b j = gA S b j := rfl
theorem gQ_sJ (S : HS) (a i : Nat) (v : Int64) (b j : Nat) : gQ (sJ S a i v) b j = gQ S b j := rfl
theorem gJ_sJ (S : HS) (a i : Nat) (v : Int64) (b j : Nat) : gJ (sJ S a i v) b j = if b = a ∧ j = i then v else gJ S b j := rfl
theorem gD_sJ (S : HS) (a i : Nat) (v : Int64) (b j : Nat) : gD (sJ S a i v) b j = gD S b j := rfl
theorem gK_sJ (S : HS) (a i : Nat) (v : Int64) (b : Nat) : gK (sJ S a i v) b = gK S b := rfl
theorem gN_sJ (S : HS) (a i : Nat) (v : Int64) (b : Nat) : gN (sJ S a i v) b = gN S b := rfl
theorem gL_sJ (S : HS) (a i : Nat) (v : Int64) : gL (sJ S a i v) = gL S := rfl
theorem gI_sD (S : HS) (a i : Nat) (v : UInt64) (g b : Nat) : gI (sD S a i v) g b = gI S g b := rfl
theorem gR_sD (S : HS) (a i : Nat) (v : UInt64) (g b : Nat) : gR (sD S a i v) g b = gR S g b := rfl
theorem gA_sD (S : HS) (a i : Nat) (v : UInt64) (b j : Nat) : gA (sD S a i v) b j = gA S b j := rfl
theorem gQ_sD (S : HS) (a i : Nat) (v : UInt64) (b j : Nat) : gQ (sD S a i v) b j = gQ S b j := rfl
theorem gJ_sD (S : HS) (a i : Nat) (v : UInt64) (b j : Nat) : gJ (sD S a i v) b j = gJ S b j := rfl
theorem gD_sD (S : HS) (a i : Nat) (v : UInt64) (b j : Nat) : gD (sD S a i v) b j = if b = a ∧ j = i then v else gD S b j := rfl
theorem gK_sD (S : HS) (a i : Nat) (v : UInt64) (b : Nat) : gK (sD S a i v) b = gK S b := rfl
theorem gN_sD (S : HS) (a i : Nat) (v : UInt64) (b : Nat) : gN (sD S a i v) b = gN S b := rfl
theorem gL_sD (S : HS) (a i : Nat) (v : UInt64) : gL (sD S a i v) = gL S := rfl
theorem gI_nw (S : HS) (k n a : Nat) (g b : Nat) : gI (nw S k n a) g b = if b = a then 0 else gI S g b := rfl
theorem gR_nw (S : HS) (k n a : Nat) (g b : Nat) : gR (nw S k n a) g b = if b = a then none else gR S g b := rfl
theorem gA_nw (S : HS) (k n a : Nat) (b j : Nat) : gA (nw S k n a) b j = if b = a then 0 else gA S b j := rfl
theorem gQ_nw (S : HS) (k n a : Nat) (b j : Nat) : gQ (nw S k n a) b j = if b = a then none else gQ S b j := rfl
theorem gJ_nw (S : HS) (k n a : Nat) (b j : Nat) : gJ (nw S k n a) b j = if b = a then 0 else gJ S b j := rfl
theorem gD_nw (S : HS) (k n a : Nat) (b j : Nat) : gD (nw S k n a) b j = if b = a then 0 else gD S b j := rfl
theorem gK_nw (S : HS) (k n a : Nat) (b : Nat) : gK (nw S k n a) b = if b = a then k else gK S b := rfl
theorem gN_nw (S : HS) (k n a : Nat) (b : Nat) : gN (nw S k n a) b = if b = a then n else gN S b := rfl
theorem gL_nw (S : HS) (k n a : Nat) : gL (nw S k n a) = gL S ++ [a] := rfl
/-- which fields of a class are references -/
def fsh : Nat → List Bool
  | 0 => [false, false, false, true, true, true, false, false]
  | 1 => [true]
  | 2 => [false, false, true, true, false, false, true, true, false, false]
  | 3 => [false, false, false, false, false, true, false, false, false]
  | 4 => [true, true, false, false]
  | 5 => [false, false, true, true, true, true, true, true, true, true, true, true, true, true, true, true, true, true, true, false]
  | _ => []
def flds (k : Nat) (S : HS) (a : Nat) : List Value := (List.range (fsh k).length).map (fun j => if (fsh k).getD j false = true then va_rf (gR S (32 * k + j) a) else .int (gI S (32 * k + j) a))
def fs0 (k : Nat) : List Value := (fsh k).map (fun r => if r = true then .null else .int 0)
def cellOf (cs : Nat → ClassId) (S : HS) (a : Nat) : va_E :=
  if gK S a < 6 then .inr (gK S a, flds (gK S a) S a)
  else if gK S a < 8 then .inl (cs (gK S a), gN S a, .inl (gA S a))
  else if gK S a < 11 then .inl (cs (gK S a), gN S a, .inr (.inr (.inr (.inr (gQ S a)))))
  else if gK S a = 11 then .inl (cs (gK S a), gN S a, .inr (.inl (gJ S a)))
  else .inl (cs (gK S a), gN S a, .inr (.inr (.inr (.inl (gD S a)))))
abbrev tysOf (cs : Nat → ClassId) : List (ClassId × FieldType) := [(cs 6, .int), (cs 7, .boolean), (cs 8, .object RX0), (cs 9, .object RX2), (cs 10, .object RX3), (cs 11, .long), (cs 12, .double)]
theorem flds_len (k : Nat) (S : HS) (a : Nat) : (flds k S a).length = (fsh k).length := by simp [flds]
theorem flds_I {k j : Nat} {S : HS} {a : Nat} (h : (fsh k)[j]? = some false) : (flds k S a)[j]? = some (.int (gI S (32 * k + j) a)) := by
  have hj : j < (fsh k).length := (List.getElem?_eq_some_iff.mp h).1
  have hg : (fsh k)[j] = false := (List.getElem?_eq_some_iff.mp h).2
  simp [flds, hj, hg]
theorem flds_R {k j : Nat} {S : HS} {a : Nat} (h : (fsh k)[j]? = some true) : (flds k S a)[j]? = some (va_rf (gR S (32 * k + j) a)) := by
  have hj : j < (fsh k).length := (List.getElem?_eq_some_iff.mp h).1
  have hg : (fsh k)[j] = true := (List.getElem?_eq_some_iff.mp h).2
  simp [flds, hj, hg]
theorem flds_sI {k j : Nat} {S : HS} {a : Nat} {v : Int32} (h : (fsh k)[j]? = some false) : (flds k S a).set j (.int v) = flds k (sI S (32 * k + j) a v) a := by
  have hj : j < (fsh k).length := (List.getElem?_eq_some_iff.mp h).1
  have hg : (fsh k)[j] = false := (List.getElem?_eq_some_iff.mp h).2
  apply List.ext_getElem (by simp [flds])
  intro i h1 h2
  rw [List.getElem_set]
  by_cases hi : j = i
  · subst hi
    simp [flds, gI_sI, gR_sI, hj, hg]
  · have hi' : ¬ i = j := fun e => hi e.symm
    simp [flds, gI_sI, gR_sI, hi, hi']
theorem flds_sR {k j : Nat} {S : HS} {a : Nat} {v : Option Nat} (h : (fsh k)[j]? = some true) : (flds k S a).set j (va_rf v) = flds k (sR S (32 * k + j) a v) a := by
  have hj : j < (fsh k).length := (List.getElem?_eq_some_iff.mp h).1
  have hg : (fsh k)[j] = true := (List.getElem?_eq_some_iff.mp h).2
  apply List.ext_getElem (by simp [flds])
  intro i h1 h2
  rw [List.getElem_set]
  by_cases hi : j = i
  · subst hi
    simp [flds, gI_sR, gR_sR, hj, hg]
  · have hi' : ¬ i = j := fun e => hi e.symm
    simp [flds, gI_sR, gR_sR, hi, hi']
theorem cell_congr {cs : Nat → ClassId} {S T : HS} {b : Nat} (h1 : gK S b = gK T b) (h2 : gN S b = gN T b) (h3 : flds (gK T b) S b = flds (gK T b) T b) (h4 : gA S b = gA T b) (h5 : gQ S b = gQ T b) (h6 : gJ S b = gJ T b) (h7 : gD S b = gD T b) : cellOf cs S b = cellOf cs T b := by
  unfold cellOf
  rw [h1, h2, h3, h4, h5, h6, h7]
theorem flds_nI {k f a b : Nat} {S : HS} {v : Int32} (h : ¬ b = a) : flds k S b = flds k (sI S f a v) b := by
  unfold flds
  simp [gI_sI, gR_sI, h]
theorem flds_nR {k f a b : Nat} {S : HS} {v : Option Nat} (h : ¬ b = a) : flds k S b = flds k (sR S f a v) b := by
  unfold flds
  simp [gI_sR, gR_sR, h]
theorem cell_sI {cs : Nat → ClassId} {S : HS} {ci j a : Nat} {v : Int32} (hk : gK S a = ci) (h6 : ci < 6) (h : (fsh ci)[j]? = some false) (b : Nat) : va_up (cellOf cs S) a (.inr (ci, (flds ci S a).set j (.int v))) b = cellOf cs (sI S (32 * ci + j) a v) b := by
  by_cases hb : b = a
  · subst hb
    have e : cellOf cs (sI S (32 * ci + j) b v) b = .inr (ci, flds ci (sI S (32 * ci + j) b v) b) := by
      unfold cellOf
      rw [gK_sI, hk, if_pos h6]
    rw [e, ← flds_sI h]
    simp [va_up]
  · rw [show va_up (cellOf cs S) a (.inr (ci, (flds ci S a).set j (.int v))) b = cellOf cs S b from if_neg hb]
    exact cell_congr rfl rfl (flds_nI hb) rfl rfl rfl rfl
theorem cell_sR {cs : Nat → ClassId} {S : HS} {ci j a : Nat} {v : Option Nat} (hk : gK S a = ci) (h6 : ci < 6) (h : (fsh ci)[j]? = some true) (b : Nat) : va_up (cellOf cs S) a (.inr (ci, (flds ci S a).set j (va_rf v))) b = cellOf cs (sR S (32 * ci + j) a v) b := by
  by_cases hb : b = a
  · subst hb
    have e : cellOf cs (sR S (32 * ci + j) b v) b = .inr (ci, flds ci (sR S (32 * ci + j) b v) b) := by
      unfold cellOf
      rw [gK_sR, hk, if_pos h6]
    rw [e, ← flds_sR h]
    simp [va_up]
  · rw [show va_up (cellOf cs S) a (.inr (ci, (flds ci S a).set j (va_rf v))) b = cellOf cs S b from if_neg hb]
    exact cell_congr rfl rfl (flds_nR hb) rfl rfl rfl rfl
theorem cell_o {cs : Nat → ClassId} {S : HS} {ci a : Nat} (hk : gK S a = ci) (h6 : ci < 6) : cellOf cs S a = .inr (ci, flds ci S a) := by
  unfold cellOf
  rw [hk, if_pos h6]
theorem cell_i {cs : Nat → ClassId} {S : HS} {kd a : Nat} (hk : gK S a = kd) (h6 : 6 ≤ kd) (h8 : kd < 8) : cellOf cs S a = .inl (cs kd, gN S a, .inl (gA S a)) := by
  unfold cellOf
  rw [hk, if_neg (by omega), if_pos h8]
theorem cell_q {cs : Nat → ClassId} {S : HS} {kd a : Nat} (hk : gK S a = kd) (h6 : 8 ≤ kd) (h8 : kd < 11) : cellOf cs S a = .inl (cs kd, gN S a, .inr (.inr (.inr (.inr (gQ S a))))) := by
  unfold cellOf
  rw [hk, if_neg (by omega), if_neg (by omega), if_pos h8]
theorem cell_j {cs : Nat → ClassId} {S : HS} {a : Nat} (hk : gK S a = 11) : cellOf cs S a = .inl (cs 11, gN S a, .inr (.inl (gJ S a))) := by
  unfold cellOf
  rw [hk, if_neg (by omega), if_neg (by omega), if_neg (by omega), if_pos rfl]
theorem cell_d {cs : Nat → ClassId} {S : HS} {a : Nat} (hk : gK S a = 12) : cellOf cs S a = .inl (cs 12, gN S a, .inr (.inr (.inr (.inl (gD S a))))) := by
  unfold cellOf
  rw [hk, if_neg (by omega), if_neg (by omega), if_neg (by omega), if_neg (by omega)]
theorem cell_sA {cs : Nat → ClassId} {S : HS} {kd a i : Nat} {v : Int32} (hk : gK S a = kd) (h6 : 6 ≤ kd) (h8 : kd < 8) (b : Nat) : va_up (cellOf cs S) a (.inl (cs kd, gN S a, .inl (upd (gA S a) i v))) b = cellOf cs (sA S a i v) b := by
  by_cases hb : b = a
  · subst hb
    rw [cell_i (S := sA S b i v) (kd := kd) hk h6 h8, show gN (sA S b i v) b = gN S b from rfl, show gA (sA S b i v) b = upd (gA S b) i v from by funext j; rw [gA_sA]; simp [upd]]
    simp [va_up]
  · rw [show va_up (cellOf cs S) a (.inl (cs kd, gN S a, .inl (upd (gA S a) i v))) b = cellOf cs S b from if_neg hb]
    exact cell_congr rfl rfl rfl (by funext j; rw [gA_sA, if_neg (fun h => hb h.1)]) rfl rfl rfl
theorem cell_sQ {cs : Nat → ClassId} {S : HS} {kd a i : Nat} {v : Option Nat} (hk : gK S a = kd) (h6 : 8 ≤ kd) (h8 : kd < 11) (b : Nat) : va_up (cellOf cs S) a (.inl (cs kd, gN S a, .inr (.inr (.inr (.inr (va_up (gQ S a) i v)))))) b = cellOf cs (sQ S a i v) b := by
  by_cases hb : b = a
  · subst hb
    rw [cell_q (S := sQ S b i v) (kd := kd) hk h6 h8, show gN (sQ S b i v) b = gN S b from rfl, show gQ (sQ S b i v) b = va_up (gQ S b) i v from by funext j; rw [gQ_sQ]; simp [va_up]]
    simp [va_up]
  · rw [show va_up (cellOf cs S) a (.inl (cs kd, gN S a, .inr (.inr (.inr (.inr (va_up (gQ S a) i v)))))) b = cellOf cs S b from if_neg hb]
    exact cell_congr rfl rfl rfl rfl (by funext j; rw [gQ_sQ, if_neg (fun h => hb h.1)]) rfl rfl
theorem cell_sJ {cs : Nat → ClassId} {S : HS} {a i : Nat} {v : Int64} (hk : gK S a = 11) (b : Nat) : va_up (cellOf cs S) a (.inl (cs 11, gN S a, .inr (.inl (vp_updL (gJ S a) i v)))) b = cellOf cs (sJ S a i v) b := by
  by_cases hb : b = a
  · subst hb
    rw [cell_j (S := sJ S b i v) hk, show gN (sJ S b i v) b = gN S b from rfl, show gJ (sJ S b i v) b = vp_updL (gJ S b) i v from by funext j; rw [gJ_sJ]; simp [vp_updL]]
    simp [va_up]
  · rw [show va_up (cellOf cs S) a (.inl (cs 11, gN S a, .inr (.inl (vp_updL (gJ S a) i v)))) b = cellOf cs S b from if_neg hb]
    exact cell_congr rfl rfl rfl rfl rfl (by funext j; rw [gJ_sJ, if_neg (fun h => hb h.1)]) rfl
theorem cell_sD {cs : Nat → ClassId} {S : HS} {a i : Nat} {v : UInt64} (hk : gK S a = 12) (b : Nat) : va_up (cellOf cs S) a (.inl (cs 12, gN S a, .inr (.inr (.inr (.inl (vf_upd (gD S a) i v)))))) b = cellOf cs (sD S a i v) b := by
  by_cases hb : b = a
  · subst hb
    rw [cell_d (S := sD S b i v) hk, show gN (sD S b i v) b = gN S b from rfl, show gD (sD S b i v) b = vf_upd (gD S b) i v from by funext j; rw [gD_sD]; simp [vf_upd]]
    simp [va_up]
  · rw [show va_up (cellOf cs S) a (.inl (cs 12, gN S a, .inr (.inr (.inr (.inl (vf_upd (gD S a) i v)))))) b = cellOf cs S b from if_neg hb]
    exact cell_congr rfl rfl rfl rfl rfl rfl (by funext j; rw [gD_sD, if_neg (fun h => hb h.1)])
theorem cell_nn {cs : Nat → ClassId} {S : HS} {k n a b : Nat} (hb : ¬ b = a) : cellOf cs S b = cellOf cs (nw S k n a) b := by
  have f : ∀ c, flds c S b = flds c (nw S k n a) b := fun c => by
    unfold flds
    simp [gI_nw, gR_nw, hb]
  exact cell_congr (by rw [gK_nw, if_neg hb]) (by rw [gN_nw, if_neg hb]) (f _) (by funext j; rw [gA_nw, if_neg hb]) (by funext j; rw [gQ_nw, if_neg hb]) (by funext j; rw [gJ_nw, if_neg hb]) (by funext j; rw [gD_nw, if_neg hb])
theorem cell_no {cs : Nat → ClassId} {S : HS} {ci n a : Nat} (h6 : ci < 6) (b : Nat) : va_up (cellOf cs S) a (.inr (ci, fs0 ci)) b = cellOf cs (nw S ci n a) b := by
  by_cases hb : b = a
  · subst hb
    rw [cell_o (S := nw S ci n b) (ci := ci) (by rw [gK_nw, if_pos rfl]) h6]
    have : flds ci (nw S ci n b) b = fs0 ci := by
      apply List.ext_getElem (by simp [flds, fs0])
      intro i h1 h2
      simp [flds, fs0, gI_nw, gR_nw, va_rf] at h1 h2 ⊢
      simp [h1]
    rw [this]
    simp [va_up]
  · rw [show va_up (cellOf cs S) a (.inr (ci, fs0 ci)) b = cellOf cs S b from if_neg hb]
    exact cell_nn hb
theorem cell_ni {cs : Nat → ClassId} {S : HS} {kd n a : Nat} (h6 : 6 ≤ kd) (h8 : kd < 8) (b : Nat) : va_up (cellOf cs S) a (.inl (cs kd, n, .inl (fun _ => 0))) b = cellOf cs (nw S kd n a) b := by
  by_cases hb : b = a
  · subst hb
    rw [cell_i (S := nw S kd n b) (kd := kd) (by rw [gK_nw, if_pos rfl]) h6 h8, show gN (nw S kd n b) b = n from by rw [gN_nw, if_pos rfl], show gA (nw S kd n b) b = fun _ => 0 from by funext j; rw [gA_nw, if_pos rfl]]
    simp [va_up]
  · rw [show va_up (cellOf cs S) a (.inl (cs kd, n, .inl (fun _ => 0))) b = cellOf cs S b from if_neg hb]
    exact cell_nn hb
theorem cell_nq {cs : Nat → ClassId} {S : HS} {kd n a : Nat} (h6 : 8 ≤ kd) (h8 : kd < 11) (b : Nat) : va_up (cellOf cs S) a (.inl (cs kd, n, .inr (.inr (.inr (.inr (fun _ => none)))))) b = cellOf cs (nw S kd n a) b := by
  by_cases hb : b = a
  · subst hb
    rw [cell_q (S := nw S kd n b) (kd := kd) (by rw [gK_nw, if_pos rfl]) h6 h8, show gN (nw S kd n b) b = n from by rw [gN_nw, if_pos rfl], show gQ (nw S kd n b) b = fun _ => none from by funext j; rw [gQ_nw, if_pos rfl]]
    simp [va_up]
  · rw [show va_up (cellOf cs S) a (.inl (cs kd, n, .inr (.inr (.inr (.inr (fun _ => none)))))) b = cellOf cs S b from if_neg hb]
    exact cell_nn hb
theorem cell_nj {cs : Nat → ClassId} {S : HS} {n a : Nat} (b : Nat) : va_up (cellOf cs S) a (.inl (cs 11, n, .inr (.inl (fun _ => 0)))) b = cellOf cs (nw S 11 n a) b := by
  by_cases hb : b = a
  · subst hb
    rw [cell_j (S := nw S 11 n b) (by rw [gK_nw, if_pos rfl]), show gN (nw S 11 n b) b = n from by rw [gN_nw, if_pos rfl], show gJ (nw S 11 n b) b = fun _ => 0 from by funext j; rw [gJ_nw, if_pos rfl]]
    simp [va_up]
  · rw [show va_up (cellOf cs S) a (.inl (cs 11, n, .inr (.inl (fun _ => 0)))) b = cellOf cs S b from if_neg hb]
    exact cell_nn hb
theorem cell_nd {cs : Nat → ClassId} {S : HS} {n a : Nat} (b : Nat) : va_up (cellOf cs S) a (.inl (cs 12, n, .inr (.inr (.inr (.inl (fun _ => 0)))))) b = cellOf cs (nw S 12 n a) b := by
  by_cases hb : b = a
  · subst hb
    rw [cell_d (S := nw S 12 n b) (by rw [gK_nw, if_pos rfl]), show gN (nw S 12 n b) b = n from by rw [gN_nw, if_pos rfl], show gD (nw S 12 n b) b = fun _ => 0 from by funext j; rw [gD_nw, if_pos rfl]]
    simp [va_up]
  · rw [show va_up (cellOf cs S) a (.inl (cs 12, n, .inr (.inr (.inr (.inl (fun _ => 0)))))) b = cellOf cs S b from if_neg hb]
    exact cell_nn hb
/-- the heap holds S, at addresses that are apart and not below lo -/
def hp (D : va_G) (cs : Nat → ClassId) (lo : Nat) (S : HS) (H : Heap) : Prop := va_P D vwCl ([] ++ va_pl (gL S) (cellOf cs S)) H ∧ va_D (fun q => lo ≤ q) ([] ++ va_pl (gL S) (cellOf cs S))
abbrev strX4 : List (Nat × String) := [(35, "columns"), (40, "width"), (42, "overlap"), (44, "limit"), (46, "due"), (50, "no more banners"), (69, "banner, row or column"), (74, "end"), (76, "level"), (82, "banner"), (91, "banner, strip, row or column"), (101, "printer"), (103, "gain"), (111, "printer or nozzle"), (124, "it is printing"), (132, "printer or row"), (142, "banner, strip or printer"), (155, "waiting, being printed or wet"), (160, "ticks"), (178, "banner or strip"), (190, "banner or seam"), (195, "a strip was not printed")]
abbrev ncsX : List (String × String) := [("java/lang/IllegalStateException", "java/lang/IllegalArgumentException"), ("java/lang/IllegalArgumentException", "java/lang/IndexOutOfBoundsException"), ("java/lang/IllegalStateException", "java/lang/IndexOutOfBoundsException")]
/-- what the throws and the arrays of references need of the start -/
def XF (lo : Nat) (U : State) (H : Heap) : Prop := vx_Zq Bundle.tN "UNASSIGNED_STACK" Bundle.steD (fun q => lo ≤ q) U H ∧ vx_Zq Bundle.tN "SUPPRESSED_SENTINEL" Bundle.listD (fun q => lo ≤ q) U H ∧ (∀ q ∈ strX4, ∃ a, vk_R RX4 q.1 q.2 a U) ∧ (∀ q ∈ ncsX, va_Nc q.1 q.2 U) ∧ va_AO RX0 U ∧ va_AO RX2 U ∧ va_AO RX3 U
theorem XF.go {lo : Nat} {s U : State} {H H1 : Heap} (hW : s.WarmedH U.vm) (h : XF lo s H) (hq : ∀ a : Nat, a < H.size → ¬ lo ≤ a → H1[a]? = H[a]?) : XF lo U H1 :=
  ⟨vx_Zq.moved hW.alike (h.1.kept hq), vx_Zq.moved hW.alike (h.2.1.kept hq), fun q hm => (h.2.2.1 q hm).imp fun _ k => vk_R.warm hW k, fun q hm => (h.2.2.2.1 q hm).moved hW.alike, h.2.2.2.2.1.moved hW.alike, h.2.2.2.2.2.1.moved hW.alike, h.2.2.2.2.2.2.moved hW.alike⟩
/-- a method's start -/
def Cn (D : va_G) (cs : Nat → ClassId) (lo : Nat) (S : HS) (U : State) : Prop := hp D cs lo S U.heap ∧ va_K D vwCl (tysOf cs) U ∧ lo ≤ U.heap.size ∧ XF lo U U.heap
theorem Cn.calling {D : va_G} {cs : Nat → ClassId} {lo : Nat} {S : HS} {U : State} {g : JFrame} {mk : MethodId} {a : Array Value} (h : Cn D cs lo S U) : Cn D cs lo S (U.calling g mk a) :=
  ⟨h.1, va_K.moved (u := U) (U := U.calling g mk a) (Vm.Alike.refl U.vm) h.2.1, h.2.2.1, XF.go (s := U) (U := U.calling g mk a) (State.WarmedH.refl U) h.2.2.2 (fun _ _ _ => rfl)⟩
abbrev Bx (p : Program) (m : MethodId) (c : Code) (cc : ByteArray) (nL : Nat) (s : State) (args : Array Value) (own : String) (D : va_G) (cs : Nat → ClassId) (lo : Nat) : Prop := CallFix p m c cc nL s args T0 own ∧ va_K D vwCl (tysOf cs) s ∧ lo ≤ s.heap.size ∧ XF lo s s.heap
abbrev Hx (D : va_G) (cs : Nat → ClassId) (lo : Nat) (s : State) (S : HS) (H : Heap) (locs : List Loc) : Prop := hp D cs lo S H ∧ va_S (fun q => lo ≤ q) s.heap H locs
theorem Hx.cn {p : Program} {m : MethodId} {c : Code} {cc : ByteArray} {nL : Nat} {s U : State} {args : Array Value} {own : String} {D : va_G} {cs : Nat → ClassId} {lo : Nat} {S : HS} {H : Heap} {locs : List Loc} (B : Bx p m c cc nL s args own D cs lo) (h : Hx D cs lo s S H locs) (hU : U.heap = H) (hW : s.WarmedH U.vm) : Cn D cs lo S U := by
  obtain ⟨B1, hK, hlo, hX⟩ := B
  exact ⟨by rw [hU]; exact h.1, hK.moved hW.alike, by rw [hU]; exact Nat.le_trans hlo h.2.1, by rw [hU]; exact XF.go hW hX h.2.2.1⟩
