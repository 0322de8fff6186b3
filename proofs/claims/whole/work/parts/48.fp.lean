/-! A quotient of whole numbers is no NaN -/
def OKd (f : FP.Core.Fmt) (d : FP.Core.Datum) : Prop := match d with | .nan => False | .inf _ => True | .fin _ c q => c < 2 * f.tails ∧ q ≤ f.qmax
def FNd (f : FP.Core.Fmt) (d : FP.Core.Datum) : Prop := match d with | .nan => False | .inf _ => False | .fin _ c q => c < 2 * f.tails ∧ q ≤ f.qmax
def Gf (f : FP.Core.Fmt) : Prop := 2 ^ f.p = 2 * f.tails ∧ 0 < f.tails ∧ f.qmin ≤ f.qmax ∧ (f.qmax - f.qmin).toNat + 2 < f.exps
theorem gf32 : Gf FP.Core.b32 := by unfold Gf; decide +kernel
theorem gf64 : Gf FP.Core.b64 := by unfold Gf; decide +kernel
theorem ok_bound {f : FP.Core.Fmt} {s : Bool} {c : Nat} {q : Int} (h : c < 2 * f.tails) : OKd f (FP.Core.bound f s c q) := by
  unfold FP.Core.bound
  by_cases z : q ≤ f.qmax
  · rw [if_pos z]; exact ⟨h, z⟩
  · rw [if_neg z]; exact trivial
theorem ok_settle {f : FP.Core.Fmt} (g : Gf f) {s : Bool} {c : Nat} {q : Int} : OKd f (FP.Core.settle f s c q) := by
  unfold FP.Core.settle
  have g1 := g.1
  have g2 := g.2.1
  by_cases z : c < 2 ^ f.p
  · rw [if_pos z]; exact ok_bound (by omega)
  · rw [if_neg z]; exact ok_bound (by omega)
theorem ok_ratio {f : FP.Core.Fmt} (g : Gf f) {s : Bool} {n d : Nat} {e : Int} : OKd f (FP.Core.roundRatio f s n d e) := by
  unfold FP.Core.roundRatio
  have g2 := g.2.1
  by_cases z : n = 0
  · rw [if_pos z]; exact ⟨by omega, g.2.2.1⟩
  · rw [if_neg z]; exact ok_settle g
theorem enc_bits {f : FP.Core.Fmt} (g : Gf f) {d : FP.Core.Datum} (h : OKd f d) : ∃ s E T, FP.Core.encode f d = (s * f.exps + E) * f.tails + T ∧ s < 2 ∧ ((E + 1 < f.exps ∧ T < f.tails) ∨ (E + 1 = f.exps ∧ T = 0)) := by
  obtain ⟨g1, g2, g3, g4⟩ := g
  cases d with
  | nan => exact h.elim
  | inf s => exact ⟨s.toNat, f.exps - 1, 0, rfl, by cases s <;> decide, Or.inr ⟨by omega, rfl⟩⟩
  | fin s c q =>
    obtain ⟨h1, h2⟩ := h
    by_cases z : c < f.tails
    · exact ⟨s.toNat, 0, c, if_pos z, by cases s <;> decide, Or.inl ⟨by omega, z⟩⟩
    · exact ⟨s.toNat, (q - f.qmin).toNat + 1, c - f.tails, if_neg z, by cases s <;> decide, Or.inl ⟨by omega, by omega⟩⟩
theorem fn_bits {f : FP.Core.Fmt} (g : Gf f) {d : FP.Core.Datum} (h : FNd f d) : ∃ s E T, FP.Core.encode f d = (s * f.exps + E) * f.tails + T ∧ s < 2 ∧ E + 1 < f.exps ∧ T < f.tails := by
  obtain ⟨g1, g2, g3, g4⟩ := g
  cases d with
  | nan => exact h.elim
  | inf s => exact h.elim
  | fin s c q =>
    obtain ⟨h1, h2⟩ := h
    by_cases z : c < f.tails
    · exact ⟨s.toNat, 0, c, if_pos z, by cases s <;> decide, by omega, z⟩
    · exact ⟨s.toNat, (q - f.qmin).toNat + 1, c - f.tails, if_neg z, by cases s <;> decide, by omega, by omega⟩
theorem t32 : FP.Core.b32.tails = 8388608 ∧ FP.Core.b32.exps = 256 := by decide +kernel
theorem t64 : FP.Core.b64.tails = 4503599627370496 ∧ FP.Core.b64.exps = 2048 := by decide +kernel
theorem bits32 {d : FP.Core.Datum} (h : OKd FP.Core.b32 d) : FP.Core.encode FP.Core.b32 d < 4294967296 ∧ FP.Core.encode FP.Core.b32 d % 2147483648 ≤ 2139095040 ∧ ¬ FP.Core.decode FP.Core.b32 (FP.Core.encode FP.Core.b32 d) = .nan := by
  obtain ⟨s, E, T, e, hs, c⟩ := enc_bits gf32 h
  unfold FP.Core.decode FP.Core.fieldE FP.Core.fieldT
  rw [t32.1, t32.2] at e c ⊢
  generalize FP.Core.encode FP.Core.b32 d = n at e ⊢
  refine ⟨by omega, by omega, ?_⟩
  rcases c with ⟨c1, c2⟩ | ⟨c1, c2⟩
  · rw [if_neg (by omega)]
    by_cases z : n / 8388608 % 256 = 0
    · rw [if_pos z]; exact fun y => by cases y
    · rw [if_neg z]; exact fun y => by cases y
  · rw [if_pos (by omega), if_pos (by omega)]
    exact fun y => by cases y
theorem bits64 {d : FP.Core.Datum} (h : OKd FP.Core.b64 d) : FP.Core.encode FP.Core.b64 d < 18446744073709551616 ∧ FP.Core.encode FP.Core.b64 d % 9223372036854775808 ≤ 9218868437227405312 ∧ ¬ FP.Core.decode FP.Core.b64 (FP.Core.encode FP.Core.b64 d) = .nan := by
  obtain ⟨s, E, T, e, hs, c⟩ := enc_bits gf64 h
  unfold FP.Core.decode FP.Core.fieldE FP.Core.fieldT
  rw [t64.1, t64.2] at e c ⊢
  generalize FP.Core.encode FP.Core.b64 d = n at e ⊢
  refine ⟨by omega, by omega, ?_⟩
  rcases c with ⟨c1, c2⟩ | ⟨c1, c2⟩
  · rw [if_neg (by omega)]
    by_cases z : n / 4503599627370496 % 2048 = 0
    · rw [if_pos z]; exact fun y => by cases y
    · rw [if_neg z]; exact fun y => by cases y
  · rw [if_pos (by omega), if_pos (by omega)]
    exact fun y => by cases y
theorem fin32 {d : FP.Core.Datum} (h : FNd FP.Core.b32 d) : FP.Core.encode FP.Core.b32 d < 4294967296 ∧ ∃ s c q, FP.Core.decode FP.Core.b32 (FP.Core.encode FP.Core.b32 d) = .fin s c q := by
  obtain ⟨s, E, T, e, hs, c1, c2⟩ := fn_bits gf32 h
  unfold FP.Core.decode FP.Core.fieldE FP.Core.fieldT
  rw [t32.2] at c1
  rw [t32.1] at c2
  rw [t32.1, t32.2] at e ⊢
  generalize FP.Core.encode FP.Core.b32 d = n at e ⊢
  refine ⟨by omega, ?_⟩
  rw [if_neg (by omega)]
  by_cases z : n / 8388608 % 256 = 0
  · rw [if_pos z]; exact ⟨_, _, _, rfl⟩
  · rw [if_neg z]; exact ⟨_, _, _, rfl⟩
theorem u32_of {n : Nat} (h : n < 4294967296) : (UInt32.ofNat n).toNat = n := Nat.mod_eq_of_lt h
theorem u64_of {n : Nat} (h : n < 18446744073709551616) : (UInt64.ofNat n).toNat = n := Nat.mod_eq_of_lt h
theorem n32_of {n : Nat} (h : n < 4294967296) (h2 : n % 2147483648 ≤ 2139095040) : vf_n32 (UInt32.ofNat n) := by
  unfold vf_n32
  rw [UInt32.le_iff_toNat_le, UInt32.toNat_and, u32_of h, show (0x7fffffff : UInt32).toNat = 2 ^ 31 - 1 from rfl, Nat.and_two_pow_sub_one_eq_mod]
  exact h2
theorem n64_of {n : Nat} (h : n < 18446744073709551616) (h2 : n % 9223372036854775808 ≤ 9218868437227405312) : vf_n64 (UInt64.ofNat n) := by
  unfold vf_n64
  rw [UInt64.le_iff_toNat_le, UInt64.toNat_and, u64_of h, show (0x7fffffffffffffff : UInt64).toNat = 2 ^ 63 - 1 from rfl, Nat.and_two_pow_sub_one_eq_mod]
  exact h2
theorem q32 : FP.Core.b32.qmin = -149 ∧ FP.Core.b32.qmax = 104 ∧ FP.Core.b32.p = 24 := by decide +kernel
theorem i2f_fin (a : Int32) : ∃ s c q, FP.Core.decode FP.Core.b32 (FP.i2f a).toNat = .fin s c q := by
  have hf : FNd FP.Core.b32 (FP.Core.round FP.Core.b32 (FP.Core.ofInt a.toInt)) := by
    show FNd FP.Core.b32 (FP.Core.roundRatio FP.Core.b32 (decide (a.toInt < 0)) a.toInt.natAbs 1 0)
    have hn : a.toInt.natAbs ≤ 2 ^ 31 := by
      have h1 := a.toInt_lt
      have h2 := a.le_toInt
      omega
    generalize a.toInt.natAbs = n at hn
    generalize decide (a.toInt < 0) = s
    unfold FP.Core.roundRatio
    by_cases z : n = 0
    · rw [if_pos z]
      exact ⟨by rw [t32.1]; decide, by rw [q32.1, q32.2.1]; decide⟩
    · rw [if_neg z]
      have hl : n.log2 < 32 := (Nat.log2_lt z).mpr (by omega)
      have hq : FP.Core.quantum FP.Core.b32 n 1 0 ≤ 9 := by
        unfold FP.Core.quantum
        rw [q32.1, q32.2.2]
        have : FP.Core.leading n 1 ≤ 31 := by
          unfold FP.Core.leading
          dsimp only
          split <;> omega
        omega
      unfold FP.Core.roundAt FP.Core.settle FP.Core.bound
      generalize FP.Core.nearest _ _ = c
      rw [q32.2.1, q32.2.2]
      by_cases y : c < 2 ^ 24
      · rw [if_pos y, if_pos (by omega)]
        exact ⟨by rw [t32.1]; omega, by rw [q32.2.1]; omega⟩
      · rw [if_neg y, if_pos (by omega)]
        exact ⟨by rw [t32.1]; omega, by rw [q32.2.1]; omega⟩
  obtain ⟨h1, h2⟩ := fin32 hf
  have e : (FP.i2f a).toNat = FP.Core.encode FP.Core.b32 (FP.Core.round FP.Core.b32 (FP.Core.ofInt a.toInt)) := u32_of h1
  rw [e]
  exact h2
def nzd (d : FP.Core.Datum) : Bool := match d with | .fin _ c _ => c != 0 | _ => false
theorem den_ok : ∀ C, C < 33 → 4 ≤ C → nzd (FP.Core.decode FP.Core.b32 (FP.i2f ((8 : Int32) * nI C)).toNat) = true := by decide +kernel
theorem cmp_self_int (a : Int) : compare a a = .eq := by
  simp [compare, compareOfLessAndEq]
theorem order_self {x : FP.Core.Datum} (h : ¬ x = .nan) : FP.Core.order x x = some .eq := by
  cases x with
  | nan => exact absurd rfl h
  | inf => exact congrArg some (cmp_self_int _)
  | fin s c q => exact congrArg some (cmp_self_int _)
theorem fq (a : Int32) {C : Nat} (h4 : 4 ≤ C) (h32 : C ≤ 32) : vf_n32 (FP.fdiv (FP.i2f a) (FP.i2f ((8 : Int32) * nI C))) ∧ vf_n64 (FP.f2d (FP.fdiv (FP.i2f a) (FP.i2f ((8 : Int32) * nI C)))) ∧ Op.cmpValue (FP.dcmp (FP.f2d (FP.fdiv (FP.i2f a) (FP.i2f ((8 : Int32) * nI C)))) (FP.f2d (FP.fdiv (FP.i2f a) (FP.i2f ((8 : Int32) * nI C))))) CmpOp.l = 0 := by
  obtain ⟨s, c, q, ea⟩ := i2f_fin a
  have hb := den_ok C (by omega) h4
  have ho : OKd FP.Core.b32 (FP.Core.quotient FP.Core.b32 (FP.Core.decode FP.Core.b32 (FP.i2f a).toNat) (FP.Core.decode FP.Core.b32 (FP.i2f ((8 : Int32) * nI C)).toNat)) := by
    rw [ea]
    generalize FP.Core.decode FP.Core.b32 (FP.i2f ((8 : Int32) * nI C)).toNat = d at hb
    cases d with
    | nan => cases hb
    | inf t => cases hb
    | fin t d r =>
      have hd : ¬ d = 0 := by
        intro z
        subst z
        cases hb
      show OKd FP.Core.b32 (if d = 0 then (if c = 0 then .nan else .inf (s != t)) else FP.Core.roundRatio FP.Core.b32 (s != t) c d (q - r))
      rw [if_neg hd]
      exact ok_ratio gf32
  obtain ⟨b1, b2, b3⟩ := bits32 ho
  have er : FP.fdiv (FP.i2f a) (FP.i2f ((8 : Int32) * nI C)) = UInt32.ofNat (FP.Core.encode FP.Core.b32 (FP.Core.quotient FP.Core.b32 (FP.Core.decode FP.Core.b32 (FP.i2f a).toNat) (FP.Core.decode FP.Core.b32 (FP.i2f ((8 : Int32) * nI C)).toNat))) := rfl
  rw [er]
  generalize FP.Core.encode FP.Core.b32 (FP.Core.quotient FP.Core.b32 (FP.Core.decode FP.Core.b32 (FP.i2f a).toNat) (FP.Core.decode FP.Core.b32 (FP.i2f ((8 : Int32) * nI C)).toNat)) = n at b1 b2 b3
  have b3' : ¬ FP.Core.decode FP.Core.b32 (UInt32.ofNat n).toNat = .nan := by rw [u32_of b1]; exact b3
  have ef : FP.f2d (UInt32.ofNat n) = UInt64.ofNat (FP.Core.encode FP.Core.b64 (FP.Core.round FP.Core.b64 (FP.Core.decode FP.Core.b32 (UInt32.ofNat n).toNat))) := by
    unfold FP.f2d
    rw [if_neg (show ¬ FP.Core.fIsNaN (UInt32.ofNat n) = true from fun y => b3' (of_decide_eq_true y))]
    rfl
  have hd : OKd FP.Core.b64 (FP.Core.round FP.Core.b64 (FP.Core.decode FP.Core.b32 (UInt32.ofNat n).toNat)) := by
    generalize FP.Core.decode FP.Core.b32 (UInt32.ofNat n).toNat = d at b3'
    cases d with
    | nan => exact absurd rfl b3'
    | inf t => exact trivial
    | fin t d r => exact ok_ratio gf64
  obtain ⟨c1, c2, c3⟩ := bits64 hd
  rw [ef]
  generalize FP.Core.encode FP.Core.b64 (FP.Core.round FP.Core.b64 (FP.Core.decode FP.Core.b32 (UInt32.ofNat n).toNat)) = m at c1 c2 c3
  refine ⟨n32_of b1 b2, n64_of c1 c2, ?_⟩
  have : FP.dcmp (UInt64.ofNat m) (UInt64.ofNat m) = some .eq := by
    show FP.Core.order (FP.Core.decode FP.Core.b64 (UInt64.ofNat m).toNat) (FP.Core.decode FP.Core.b64 (UInt64.ofNat m).toNat) = some .eq
    rw [u64_of c1]
    exact order_self c3
  rw [this]
  rfl
