/-! spilt, seam, meanError -/
theorem acc_split (f : Nat → Int32) : ∀ (m n i : Nat) (a : Int32), acc f (m + n) i a = acc f n (i + m) (acc f m i a) := by
  intro m
  induction m with
  | zero => intro n i a; rw [Nat.zero_add]; rfl
  | succ m ih => intro n i a; rw [Nat.succ_add, acc, acc, ih, show i + 1 + m = i + (m + 1) from by omega]
theorem acc_shift {f g : Nat → Int32} : ∀ (d i j : Nat) (a : Int32), (∀ k, k < d → f (i + k) = g (j + k)) → acc f d i a = acc g d j a := by
  intro d
  induction d with
  | zero => intros; rfl
  | succ d ih =>
    intro i j a h
    rw [acc, acc, show f i = g j from h 0 (by omega)]
    exact ih _ _ _ (fun k hk => by rw [show i + 1 + k = i + (k + 1) from by omega, show j + 1 + k = j + (k + 1) from by omega]; exact h (k + 1) (by omega))
theorem acc2_add (f : Nat → Nat → Int32) (C : Nat) : ∀ (d r : Nat) (a b : Int32), acc2 f C d r (a + b) = a + acc2 f C d r b := by
  intro d
  induction d with
  | zero => intros; rfl
  | succ d ih => intro r a b; rw [acc2, acc2, acc_add, ih]
theorem acc2_0 (f : Nat → Nat → Int32) : ∀ (d r : Nat) (a : Int32), acc2 f 0 d r a = a := by
  intro d
  induction d with
  | zero => intros; rfl
  | succ d ih => intro r a; rw [acc2, ih]; rfl
theorem acc2_s (f : Nat → Nat → Int32) (C : Nat) : ∀ (d r : Nat) (a : Int32), acc2 f (C + 1) d r a = acc2 f C d r a + acc (fun r => f r C) d r 0 := by
  intro d
  induction d with
  | zero => intro r a; exact (Int32.add_zero _).symm
  | succ d ih =>
    intro r a
    have e1 : acc (f r) (C + 1) 0 a = f r C + acc (f r) C 0 a := by
      rw [acc_split (f r) C 1 0 a]
      show acc (f r) C 0 a + f r (0 + C) = _
      rw [Nat.zero_add, Int32.add_comm]
    have e2 : acc (fun r => f r C) (d + 1) r 0 = f r C + acc (fun r => f r C) d (r + 1) 0 := by
      rw [acc, Int32.zero_add]
      have := acc_add (fun r => f r C) d (r + 1) (f r C) 0
      rw [Int32.add_zero] at this
      exact this
    rw [acc2, acc2, ih, e1, e2, acc2_add]
    grind
theorem acc2_col (f : Nat → Nat → Int32) (a : Int32) : ∀ C : Nat, acc2 f C 8 0 a = acc (fun k => f (k % 8) (k / 8)) (8 * C) 0 a := by
  intro C
  induction C with
  | zero => rw [acc2_0]; rfl
  | succ C ih =>
    rw [acc2_s, ih, show 8 * (C + 1) = 8 * C + 8 from by omega, acc_split]
    rw [acc_shift (f := fun k => f (k % 8) (k / 8)) (g := fun r => f r C) 8 (0 + 8 * C) 0 _ (fun k hk => by
      show f ((0 + 8 * C + k) % 8) ((0 + 8 * C + k) / 8) = f (0 + k) C
      rw [show (0 + 8 * C + k) % 8 = 0 + k from by omega, show (0 + 8 * C + k) / 8 = C from by omega])]
    have := acc_add (fun r => f r C) 8 0 (acc (fun k => f (k % 8) (k / 8)) (8 * C) 0 a) 0
    rw [Int32.add_zero] at this
    exact this.symm
theorem acc2_congr {f g : Nat → Nat → Int32} {C : Nat} : ∀ (d r : Nat) (a : Int32), (∀ i j, i < r + d → j < C → f i j = g i j) → acc2 f C d r a = acc2 g C d r a := by
  intro d
  induction d with
  | zero => intros; rfl
  | succ d ih =>
    intro r a h
    rw [acc2, acc2, acc_congr (f := f r) (g := g r) C 0 a (fun j _ hj => h r j (by omega) (by omega))]
    exact ih _ _ (fun i j h1 h2 => h i j (by omega) h2)
theorem gmx_ch (f : Nat → Int32) : ∀ (d i : Nat) (a : Int32), a ≤ gmx f d i a ∧ (∀ j, i ≤ j → j < i + d → f j ≤ gmx f d i a) ∧ (gmx f d i a = a ∨ ∃ j, i ≤ j ∧ j < i + d ∧ gmx f d i a = f j) := by
  intro d
  induction d with
  | zero => intro i a; exact ⟨Int32.le_refl _, fun j h1 h2 => absurd h2 (by omega), Or.inl rfl⟩
  | succ d ih =>
    intro i a
    obtain ⟨h1, h2, h3⟩ := ih (i + 1) (if a < f i then f i else a)
    rw [gmx]
    have ha : a ≤ (if a < f i then f i else a) := by
      by_cases z : a < f i
      · rw [if_pos z]; exact Int32.le_of_lt z
      · rw [if_neg z]; exact Int32.le_refl _
    have hf : f i ≤ (if a < f i then f i else a) := by
      by_cases z : a < f i
      · rw [if_pos z]; exact Int32.le_refl _
      · rw [if_neg z]; exact Int32.not_lt.mp z
    refine ⟨Int32.le_trans ha h1, fun j k1 k2 => ?_, ?_⟩
    · rcases Nat.eq_or_lt_of_le k1 with e | e
      · rw [← e]; exact Int32.le_trans hf h1
      · exact h2 j (by omega) (by omega)
    · rcases h3 with e | ⟨j, k1, k2, e⟩
      · rw [e]
        by_cases z : a < f i
        · rw [if_pos z]; exact Or.inr ⟨i, Nat.le_refl _, by omega, rfl⟩
        · rw [if_neg z]; exact Or.inl rfl
      · exact Or.inr ⟨j, by omega, by omega, e⟩
theorem gmx2_ch (f : Nat → Nat → Int32) (lo C : Nat) : ∀ (d r : Nat) (a : Int32), a ≤ gmx2 f lo C d r a ∧ (∀ i j, r ≤ i → i < r + d → lo ≤ j → j < lo + C → f i j ≤ gmx2 f lo C d r a) ∧ (gmx2 f lo C d r a = a ∨ ∃ i j, r ≤ i ∧ i < r + d ∧ lo ≤ j ∧ j < lo + C ∧ gmx2 f lo C d r a = f i j) := by
  intro d
  induction d with
  | zero => intro r a; exact ⟨Int32.le_refl _, fun i j h1 h2 => absurd h2 (by omega), Or.inl rfl⟩
  | succ d ih =>
    intro r a
    obtain ⟨g1, g2, g3⟩ := gmx_ch (f r) C lo a
    obtain ⟨h1, h2, h3⟩ := ih (r + 1) (gmx (f r) C lo a)
    rw [gmx2]
    refine ⟨Int32.le_trans g1 h1, fun i j k1 k2 k3 k4 => ?_, ?_⟩
    · rcases Nat.eq_or_lt_of_le k1 with e | e
      · rw [← e]; exact Int32.le_trans (g2 j k3 k4) h1
      · exact h2 i j (by omega) (by omega) k3 k4
    · rcases h3 with e | ⟨i, j, k1, k2, k3, k4, e⟩
      · rw [e]
        rcases g3 with e | ⟨j, k1, k2, e⟩
        · exact Or.inl e
        · exact Or.inr ⟨r, j, Nat.le_refl _, by omega, k1, k2, e⟩
      · exact Or.inr ⟨i, j, by omega, by omega, k3, k4, e⟩
theorem gmx2_swap {f g : Nat → Nat → Int32} {lo C : Nat} {a : Int32} (h : ∀ i j, i < 8 → lo ≤ j → j < lo + C → f i j = g j i) : gmx2 f lo C 8 0 a = gmx2 g 0 8 C lo a := by
  obtain ⟨a1, a2, a3⟩ := gmx2_ch f lo C 8 0 a
  obtain ⟨b1, b2, b3⟩ := gmx2_ch g 0 8 C lo a
  refine Int32.le_antisymm ?_ ?_
  · rcases a3 with e | ⟨i, j, k1, k2, k3, k4, e⟩
    · rw [e]; exact b1
    · rw [e, h i j (by omega) k3 k4]; exact b2 j i k3 k4 (by omega) (by omega)
  · rcases b3 with e | ⟨i, j, k1, k2, k3, k4, e⟩
    · rw [e]; exact a1
    · rw [e, ← h j i (by omega) k1 k2]; exact a2 j i (by omega) (by omega) k1 k2
section SM
variable {ad : Nat → Nat → Nat → Nat} {T : TT} {M : MM} {S : HS}
theorem k8 {k C : Nat} (hk : k < 8 * C) (hC : C ≤ 32) : nI k - nI k / (8 : Int32) * (8 : Int32) = nI (k % 8) ∧ nI k / (8 : Int32) = nI (k / 8) ∧ k % 8 < 8 ∧ k / 8 < C :=
  ⟨pk_rem (d := 8) (by omega) (by omega) (by omega), pk_div (d := 8) (by omega) (by omega) (by omega), by omega, by omega⟩
theorem e8 {C : Nat} : (8 : Int32) * nI C = nI (8 * C) := by rw [lit 8, pk_mul]
theorem lp_msp (h : INV ad (TM T M) S) {b C : Nat} (hb : b < 5) (hC : M.2 2 b = nI C) (hC2 : C ≤ 32) {K : Int32 → Int32 → HS → Prop} : ∀ (d i : Nat) (a m : Int32), i + d = 8 * C → m = nI i → K (acc (fun k => if mlaid M (256 * b + 32 * (k % 8) + k / 8) ≤ M.2 5 b then 0 else 1) d i a) (nI (8 * C)) S → wX5_spilt_L26 (ad 15 0 0) (nI b) (d + 1) a m S K := by
  intro d
  induction d with
  | zero =>
    intro i a m hi hm k
    subst hm
    obtain rfl : i = 8 * C := by omega
    refine ⟨m_ok h, rd 2 h rfl hb ?_⟩
    rw [mv 2 h rfl hb, hC, e8]
    exact ⟨fun _ => k, fun z => absurd (nI_le (Nat.le_refl _) (by omega)) z⟩
  | succ d ih =>
    intro i a m hi hm k
    subst hm
    obtain ⟨q1, q2, q3, q4⟩ := k8 (k := i) (C := C) (by omega) hC2
    refine ⟨m_ok h, rd 2 h rfl hb ?_⟩
    rw [mv 2 h rfl hb, hC, e8]
    refine ⟨fun z => absurd z (nI_ge (by omega) (by omega)), fun _ => ⟨m_ok h, ?_⟩⟩
    rw [q1, q2]
    refine sm_all h hb q3 (by omega) ⟨m_ok h, rd 5 h rfl hb ?_⟩
    rw [mv 5 h rfl hb]
    refine ⟨fun e => ih (i + 1) _ _ (by omega) (nI_1 i) ?_, fun e => ih (i + 1) _ _ (by omega) (nI_1 i) ?_⟩
    · rw [acc, if_pos e] at k; exact k
    · rw [acc, if_neg e] at k; exact k
theorem lp_mme (h : INV ad (TM T M) S) {b C : Nat} (hb : b < 5) (hC : M.2 2 b = nI C) (hC2 : C ≤ 32) {K : Int32 → Int32 → HS → Prop} : ∀ (d i : Nat) (a m : Int32), i + d = 8 * C → m = nI i → K (acc (fun k => merr M b (256 * b + 32 * (k % 8) + k / 8)) d i a) (nI (8 * C)) S → wX5_meanError_L26 (ad 15 0 0) (nI b) (d + 1) a m S K := by
  intro d
  induction d with
  | zero =>
    intro i a m hi hm k
    subst hm
    obtain rfl : i = 8 * C := by omega
    refine ⟨m_ok h, rd 2 h rfl hb ?_⟩
    rw [mv 2 h rfl hb, hC, e8]
    exact ⟨fun _ => k, fun z => absurd (nI_le (Nat.le_refl _) (by omega)) z⟩
  | succ d ih =>
    intro i a m hi hm k
    subst hm
    obtain ⟨q1, q2, q3, q4⟩ := k8 (k := i) (C := C) (by omega) hC2
    refine ⟨m_ok h, rd 2 h rfl hb ?_⟩
    rw [mv 2 h rfl hb, hC, e8]
    refine ⟨fun z => absurd z (nI_ge (by omega) (by omega)), fun _ => ⟨m_ok h, ?_⟩⟩
    rw [q1, q2]
    exact sm_error h hb q3 (by omega) (ih (i + 1) _ _ (by omega) (nI_1 i) k)
theorem lp_ms1 (h : INV ad (TM T M) S) {b c : Nat} {c6 : Int32} (hb : b < 5) (hc : c < 32) {K : Int32 → Int32 → HS → Prop} : ∀ (d r : Nat) (g m : Int32), r + d = 8 → m = nI r → K (gmx (fun r => merr M b (256 * b + 32 * r + c)) d r g) (nI 8) S → wX5_seam_L166 (ad 15 0 0) (nI b) c6 (nI c) (d + 1) g m S K := by
  intro d
  induction d with
  | zero =>
    intro r g m hr hm k
    subst hm
    obtain rfl : r = 8 := by omega
    exact ⟨fun _ => k, fun z => absurd (nI_le (Nat.le_refl 8) (by decide)) z⟩
  | succ d ih =>
    intro r g m hr hm k
    subst hm
    refine ⟨fun z => absurd z (lle (k := 8) (by omega) (by decide)), fun _ => ⟨m_ok h, sm_error h hb (by omega) hc ⟨fun z => ih (r + 1) _ _ (by omega) (nI_1 r) ?_, fun z => ih (r + 1) _ _ (by omega) (nI_1 r) ?_⟩⟩⟩
    · rw [gmx, if_neg (Int32.not_lt.mpr z)] at k; exact k
    · rw [gmx, if_pos (Int32.not_le.mp z)] at k; exact k
theorem lp_ms2 (h : INV ad (TM T M) S) {b t : Nat} (hb : b < 5) (ht : t ≤ 32) {K : Int32 → Int32 → HS → Prop} : ∀ (d c : Nat) (g m : Int32), c + d = t → m = nI c → K (gmx2 (fun c r => merr M b (256 * b + 32 * r + c)) 0 8 d c g) (nI t) S → wX5_seam_L156 (ad 15 0 0) (nI b) (nI t) (d + 1) g m S K := by
  intro d
  induction d with
  | zero =>
    intro c g m hc hm k
    subst hm
    obtain rfl : c = t := by omega
    exact ⟨fun _ => k, fun z => absurd (nI_le (Nat.le_refl c) (by omega)) z⟩
  | succ d ih =>
    intro c g m hc hm k
    subst hm
    exact ⟨fun z => absurd z (nI_ge (by omega) (by omega)), fun _ => ⟨9, lp_ms1 h hb (by omega) 8 0 g 0 rfl nI_0.symm (ih (c + 1) _ _ (by omega) (nI_1 c) k)⟩⟩
end SM
section SS
variable {a b c d : Nat} {W : HS → Prop} {S : HS} {x y z u w : Int32} {Post : Int32 → HS → Prop}
theorem cs_spilt (hW : ∀ S, LI a b c d S → W S) (h : LI a b c d S) (k : ∀ r1 S7, (ok S7 b 5 ∧ wX5_spilt b x S7 (fun r2 S8 => TL b c W r1 r2 S8)) → Post r1 S7) : wL_spilt (some a) x (some c) S Post := by
  obtain ⟨ad, T, hI, hR, ht, rfl, rfl, rfl, rfl⟩ := h
  obtain ⟨hI', hN, v⟩ := LIx hI hR
  refine ⟨_, rfl, (s_ref hI).1, (s_ref hI).1, ?_⟩
  by_cases z : ∃ b, b < tN T ∧ x = nI b
  · obtain ⟨b, hb, rfl⟩ := z
    have h5 := v.1
    have hC := (v.2.1 b hb).1
    have c32 : gC (gM T) b ≤ 32 := (hR.2.1 b hb).1.2.2.2.2.1
    refine cB_y hI hb ⟨fun z => (by cases z), fun q e => ?_⟩
    cases e
    refine ⟨(b_ref hI hb).1, sp_spiltDots hI hb (hR.2.1 b hb).2.1 c32 ?_⟩
    have en : acc2 (fun r c => if tA T 10 b 0 (32 * r + c) ≤ tF T 6 b 0 1 then 0 else 1) (gC (gM T) b) 8 0 0 = acc (fun k => if mlaid (mF (gM T) 179 0) (256 * b + 32 * (k % 8) + k / 8) ≤ (mF (gM T) 179 0).2 5 b then 0 else 1) (8 * gC (gM T) b) 0 0 := by
      rw [← acc2_col (fun r c => if mlaid (mF (gM T) 179 0) (256 * b + 32 * r + c) ≤ (mF (gM T) 179 0).2 5 b then 0 else 1) 0 (gC (gM T) b)]
      refine acc2_congr 8 0 0 (fun i j h1 h2 => ?_)
      rw [((hR.2.2.1 b hb).2 (32 * i + j) (by omega)).2, (hR.2.1 b hb).2.2.1, ← Nat.add_assoc]
      rfl
    refine rtn hI (fun ad' S3 h3 e0 e15 e17 e18 eJ => k 0 S3 ?_)
    rw [← e15] at hW ⊢
    exact ⟨m_ok h3, m_ok h3, mB_y h3 hN v hb ⟨fun z => absurd z w1n, fun _ => f0 h3 (fun S4 h4 => ⟨8 * gC (gM T) b + 1, lp_msp h4 (by omega) hC c32 (8 * gC (gM T) b) 0 0 0 (by omega) nI_0.symm (fin_ok hW e0 e17 e18 eJ (by rw [en]) h4 rfl hR ht)⟩)⟩⟩
  · refine cB_n hI z ⟨fun _ => ⟨rfl, k 1 S ?_⟩, fun q e => (by cases e)⟩
    exact ⟨m_ok hI', m_ok hI', mB_n hI' hN v z ⟨fun _ => f1 hI' w1 (fun S4 h4 => fin_th hW rfl rfl rfl w1n h4 hR ht), fun z => absurd rfl z⟩⟩
end SS
/-- the tail of meanError -/
def TLD (b c : Nat) (W : HS → Prop) (r1 : Int32) (r2 : UInt32) (S : HS) : Prop := ok S b 5 ∧ wX5_thrown b S (fun r3 S9 => ((r3 = r1 → ((¬ r1 = 0 → W S9) ∧ (r1 = 0 → (ok S9 c 12 ∧ vp_in (0 : Int32) (gN S9 c) ∧ (vf_n64 (FP.f2d r2) ∧ (((Op.cmpValue (FP.dcmp (gD S9 c (0 : Int32).toNatClampNeg) (FP.f2d r2)) CmpOp.l) = 0 → W S9) ∧ (¬ (Op.cmpValue (FP.dcmp (gD S9 c (0 : Int32).toNatClampNeg) (FP.f2d r2)) CmpOp.l) = 0 → (ok S9 c 12 ∧ vp_in (0 : Int32) (gN S9 c) ∧ (ok S9 c 12 ∧ vp_in (0 : Int32) (gN S9 c) ∧ (((Op.cmpValue (FP.dcmp (gD S9 c (0 : Int32).toNatClampNeg) (gD S9 c (0 : Int32).toNatClampNeg)) CmpOp.l) = 0 → False) ∧ (¬ (Op.cmpValue (FP.dcmp (gD S9 c (0 : Int32).toNatClampNeg) (gD S9 c (0 : Int32).toNatClampNeg)) CmpOp.l) = 0 → ((¬ (Op.cmpValue (FP.fcmp r2 r2) CmpOp.l) = 0 → W S9) ∧ ((Op.cmpValue (FP.fcmp r2 r2) CmpOp.l) = 0 → False))))))))))))) ∧ (¬ r3 = r1 → False)))
section DD
variable {ad : Nat → Nat → Nat → Nat} {T : TT} {M : MM} {S : HS}
theorem rtnD (h : INV ad T S) {v : UInt64} {Q : Int32 → HS → Prop} (k : ∀ ad' S3, INV ad' (TM T (gM T)) S3 → ad' 0 0 0 = ad 0 0 0 → ad' 15 0 0 = ad 15 0 0 → ad' 17 0 0 = ad 17 0 0 → ad' 18 0 0 = ad 18 0 0 → ad' 101 0 0 = v.toNat → Q 0 S3) : ∃ q2, some (ad 18 0 0) = some q2 ∧ (ok S q2 12 ∧ vp_in (0 : Int32) (gN S q2) ∧ (∀ S3, S3 = sD S q2 (0 : Int32).toNatClampNeg v → Q (0 : Int32) S3)) := by
  obtain ⟨-, -, o1, o2⟩ := o_ref h
  refine ⟨_, rfl, o1, by rw [o2]; exact vp_in_nI (n := 0) (by decide) (by decide), fun S3 e => ?_⟩
  rw [cl0] at e
  have := INV_D h e
  exact k (adD ad v.toNat) S3 (by rw [TM_gM]; exact this) rfl rfl rfl rfl rfl
theorem fin_okD {a c d : Nat} {W : HS → Prop} (hW : ∀ S, LI a (ad 15 0 0) c d S → W S) (ea : ad 0 0 0 = a) (ec : ad 17 0 0 = c) (ed : ad 18 0 0 = d) {v : UInt64} {r2 : UInt32} (hJ : ad 101 0 0 = v.toNat) (ev : v = FP.f2d r2) (n1 : vf_n64 (FP.f2d r2)) (n2 : Op.cmpValue (FP.dcmp (FP.f2d r2) (FP.f2d r2)) CmpOp.l = 0) (h : INV ad (TM T M) S) (h179 : M.1 179 = 0) (hR : RR T M) (ht : RRt T) : TLD (ad 15 0 0) d W 0 r2 S := by
  subst ed
  have w : W S := hW S ⟨ad, TM T M, h, by rw [gM_TM]; exact hR, ht, ea, rfl, ec, rfl⟩
  have hj := D_of h hJ
  obtain ⟨-, -, o1, o2⟩ := o_ref h
  refine ⟨m_ok h, sm_thrown h ⟨fun _ => ⟨fun z => absurd rfl z, fun _ => ⟨o1, by rw [o2]; exact vp_in_nI (n := 0) (by decide) (by decide), n1, fun _ => w, fun z => absurd ?_ z⟩⟩, fun z => z h179⟩⟩
  rw [cl0, hj, ev]
  exact n2
theorem fin_thD {a c d : Nat} {W : HS → Prop} (hW : ∀ S, LI a (ad 15 0 0) c d S → W S) (ea : ad 0 0 0 = a) (ec : ad 17 0 0 = c) (ed : ad 18 0 0 = d) {w : Int32} {r2 : UInt32} (hw : ¬ w = 0) (h : INV ad (TM T (mF M 179 w)) S) (hR : RR T M) (ht : RRt T) : TLD (ad 15 0 0) d W w r2 S := by
  subst ed
  have k : W S := hW S ⟨ad, TM T (mF M 179 w), h, by rw [gM_TM]; exact hR, ht, ea, rfl, ec, rfl⟩
  exact ⟨m_ok h, sm_thrown h ⟨fun _ => ⟨fun _ => k, fun z => absurd z hw⟩, fun z => z rfl⟩⟩
end DD
section ME
variable {a b c d : Nat} {W : HS → Prop} {S : HS} {x y z u w : Int32} {Post : Int32 → HS → Prop}
theorem cs_meanError (hW : ∀ S, LI a b c d S → W S) (h : LI a b c d S) (k : ∀ r1 S7, (ok S7 b 5 ∧ wX5_meanError b x S7 (fun r2 S8 => TLD b d W r1 r2 S8)) → Post r1 S7) : wL_meanError (some a) x (some d) S Post := by
  obtain ⟨ad, T, hI, hR, ht, rfl, rfl, rfl, rfl⟩ := h
  obtain ⟨hI', hN, v⟩ := LIx hI hR
  refine ⟨_, rfl, (s_ref hI).1, (s_ref hI).1, ?_⟩
  by_cases z : ∃ b, b < tN T ∧ x = nI b
  · obtain ⟨b, hb, rfl⟩ := z
    have h5 := v.1
    have hC := (v.2.1 b hb).1
    have c4 : 4 ≤ gC (gM T) b := (hR.2.1 b hb).1.2.2.2.1
    have c32 : gC (gM T) b ≤ 32 := (hR.2.1 b hb).1.2.2.2.2.1
    refine cB_y hI hb ⟨fun z => (by cases z), fun q e => ?_⟩
    cases e
    have en : acc2 (fun r c => cerr T b (32 * r + c)) (gC (gM T) b) 8 0 0 = acc (fun k => merr (mF (gM T) 179 0) b (256 * b + 32 * (k % 8) + k / 8)) (8 * gC (gM T) b) 0 0 := by
      rw [← acc2_col (fun r c => merr (mF (gM T) 179 0) b (256 * b + 32 * r + c)) 0 (gC (gM T) b)]
      refine acc2_congr 8 0 0 (fun i j h1 h2 => ?_)
      rw [cerr_eq (M := mF (gM T) 179 0) hR hb (by omega), ← Nat.add_assoc]
    refine ⟨(b_ref hI hb).1, ?_⟩
    rw [hI.I (vk6 hb (by decide) (by decide)), (hR.2.1 b hb).2.1]
    refine ⟨fun _ => ⟨(b_ref hI hb).1, sp_errorSum hI hb (hR.2.1 b hb).2.1 c32 ?_⟩, fun z => absurd (by rw [e8]; exact nI_le (a := 1) (by omega) (by omega)) z⟩
    obtain ⟨n1, n2, n3⟩ := fq (acc2 (fun r c => cerr T b (32 * r + c)) (gC (gM T) b) 8 0 0) c4 c32
    refine ⟨n1, n2, rtnD hI (fun ad' S3 h3 e0 e15 e17 e18 eJ => k 0 S3 ?_)⟩
    rw [← e15] at hW ⊢
    rw [en] at n1 n2 n3 eJ
    refine ⟨m_ok h3, m_ok h3, mB_y h3 hN v hb ⟨fun z => absurd z w1n, fun _ => f0 h3 (fun S4 h4 => ⟨8 * gC (gM T) b + 1, lp_mme h4 (by omega) hC c32 (8 * gC (gM T) b) 0 0 0 (by omega) nI_0.symm ⟨m_ok h4, rd 2 h4 rfl (show b < 5 by omega) ?_⟩⟩)⟩⟩
    rw [mv 2 h4 rfl (show b < 5 by omega), show (mF (gM T) 179 0).2 2 b = nI (gC (gM T) b) from hC]
    exact ⟨n1, fin_okD hW e0 e17 e18 eJ rfl n2 n3 h4 rfl hR ht⟩
  · refine cB_n hI z ⟨fun _ => ⟨rfl, k 1 S ?_⟩, fun q e => (by cases e)⟩
    exact ⟨m_ok hI', m_ok hI', mB_n hI' hN v z ⟨fun _ => f1 hI' w1 (fun S4 h4 => fin_thD hW rfl rfl rfl w1n h4 hR ht), fun z => absurd rfl z⟩⟩
end ME
section SE
variable {ad : Nat → Nat → Nat → Nat} {T : TT} {M : MM} {S : HS}
theorem mI_m2 {x : Int32} {n : Nat} (hn : n < 2 ^ 20) : (0 ≤ x ∧ x ≤ nI n - 2) ↔ ∃ s, s + 1 < n ∧ x = nI s := by
  constructor
  · rintro ⟨a, b⟩
    obtain ⟨j, hj, rfl⟩ := nI_of (Int32.not_lt.mpr a)
    rcases Nat.lt_or_ge n 2 with e | e
    · have : nI n - 2 < 0 := pk_sneg (a := n) (b := 2) (by decide) e
      exact absurd (Int32.le_trans a b) (Int32.not_le.mpr this)
    · rw [show nI n - 2 = nI (n - 2) from pk_sub (b := 2) e] at b
      exact ⟨j, by have := (nI_leI hj (by omega)).mp b; omega, rfl⟩
  · rintro ⟨s, a, rfl⟩
    rw [show nI n - 2 = nI (n - 2) from pk_sub (b := 2) (by omega)]
    exact ⟨nI_pos' (by omega), nI_le (by omega) (by omega)⟩
theorem m_seam1 {x y : Int32} (h : INV ad (TM T M) S) (hN : M.1 161 = nI (tN T)) (v : MVal M (tN T) (tS T)) {Q : Int32 → HS → Prop} (e : ¬ ∃ b s, b < tN T ∧ s + 1 < tS T b ∧ x = nI b ∧ y = nI s) (k : ∀ S', INV ad (TM T (mF M 179 1)) S' → Q 0 S') : wX5_seam (ad 15 0 0) x y S Q := by
  have h5 := v.1
  refine ⟨m_ok h, ?_⟩
  by_cases z : ∃ b, b < tN T ∧ x = nI b
  · obtain ⟨b, hb, rfl⟩ := z
    have n16 := (v.2.1 b hb).2.2.2.2.2.2.2.2.2.1
    refine mB_y h hN v hb ⟨fun z => absurd z w1n, fun _ => ⟨m_ok h, sm_stripsOf h (v.2.1 b hb) (by omega) (mI_n (fun y => ?_) ⟨fun _ => ⟨fun _ => ⟨fun z => absurd rfl z, fun _ => f1 h w1 k⟩, fun z => absurd rfl z⟩, fun z => absurd rfl z⟩)⟩⟩
    obtain ⟨s, s1, s2⟩ := (mI_m2 (by omega)).mp y
    exact e ⟨b, s, hb, s1, rfl, s2⟩
  · exact mB_n h hN v z ⟨fun _ => ⟨fun _ => ⟨fun z => absurd rfl z, fun _ => f1 h w1 k⟩, fun z => absurd rfl z⟩, fun z => absurd rfl z⟩
theorem m_seam2 {b s : Nat} (h : INV ad (TM T M) S) (hN : M.1 161 = nI (tN T)) (v : MVal M (tN T) (tS T)) (hb : b < tN T) (hs : s + 1 < tS T b) {Q : Int32 → HS → Prop} (e : M.2 10 (16 * b + s) = -1 ∨ M.2 10 (16 * b + (s + 1)) = -1) (k : ∀ S', INV ad (TM T (mF M 179 2)) S' → Q 0 S') : wX5_seam (ad 15 0 0) (nI b) (nI s) S Q := by
  have h5 := v.1
  have n16 := (v.2.1 b hb).2.2.2.2.2.2.2.2.2.1
  have hn : 16 * b + s < 80 := by omega
  have hn1 : 16 * b + (s + 1) < 80 := by omega
  have ie : nI (16 * b + s) + 1 = nI (16 * b + (s + 1)) := nI_1 _
  refine ⟨m_ok h, mB_y h hN v hb ⟨fun z => absurd z w1n, fun _ => ⟨m_ok h, sm_stripsOf h (v.2.1 b hb) (by omega) (mI_y ((mI_m2 (by omega)).mpr ⟨s, hs, rfl⟩) ⟨fun z => absurd z w1n, fun _ => ⟨fun z => absurd z w1n, fun _ => ⟨fun _ => ⟨m_ok h, rd 10 h ix16 hn ?_⟩, fun z => absurd z w1n⟩⟩⟩)⟩⟩⟩
  rw [mv 10 h ix16 hn, ix16, ie]
  refine ⟨fun _ => f1 h w2 k, fun z => ⟨m_ok h, rd 10 h rfl hn1 ?_⟩⟩
  rw [mv 10 h rfl hn1]
  refine ⟨fun z2 => ?_, fun _ => f1 h w2 k⟩
  rcases e with e | e
  · exact absurd e z
  · exact absurd e z2
theorem m_seam0 {b s f t : Nat} (h : INV ad (TM T M) S) (hN : M.1 161 = nI (tN T)) (v : MVal M (tN T) (tS T)) (hb : b < tN T) (hs : s + 1 < tS T b) (e1 : ¬ M.2 10 (16 * b + s) = -1) (e2 : ¬ M.2 10 (16 * b + (s + 1)) = -1)
    (ef : f = if gO M b = 0 then (s + 1) * (gW M b - gO M b) - 1 else (s + 1) * (gW M b - gO M b)) (et : t = if gO M b = 0 then eN (gC M b) (gW M b) (gO M b) s + 1 else eN (gC M b) (gW M b) (gO M b) s) (hft : f ≤ t) (ht : t ≤ 32)
    {Q : Int32 → HS → Prop} (k : ∀ S', INV ad (TM T (mF M 179 0)) S' → Q (gmx2 (fun c r => merr M b (256 * b + 32 * r + c)) 0 8 (t - f) f 0) S') : wX5_seam (ad 15 0 0) (nI b) (nI s) S Q := by
  have h5 := v.1
  have gg := v.2.1 b hb
  obtain ⟨g1, g2, g3, g4, g5, g6, g7, g8, g9, n16, g11, g12⟩ := id gg
  have hn : 16 * b + s < 80 := by omega
  have hn1 : 16 * b + (s + 1) < 80 := by omega
  have ie : nI (16 * b + s) + 1 = nI (16 * b + (s + 1)) := nI_1 _
  have k1 := kst (k := s + 1) (O := gO M b) (by omega) g7
  have pos : 1 ≤ (s + 1) * (gW M b - gO M b) := Nat.mul_pos (by omega) (by omega)
  have h5' : b < 5 := by omega
  refine ⟨m_ok h, mB_y h hN v hb ⟨fun z => absurd z w1n, fun _ => ⟨m_ok h, sm_stripsOf h gg h5' (mI_y ((mI_m2 (by omega)).mpr ⟨s, hs, rfl⟩) ⟨fun z => absurd z w1n, fun _ => ⟨fun z => absurd z w1n, fun _ => ⟨fun _ => ⟨m_ok h, rd 10 h ix16 hn ?_⟩, fun z => absurd z w1n⟩⟩⟩)⟩⟩⟩
  rw [mv 10 h ix16 hn, ix16, ie]
  refine ⟨fun z => absurd z e1, fun z => ⟨m_ok h, rd 10 h rfl hn1 ?_⟩⟩
  rw [mv 10 h rfl hn1]
  refine ⟨fun _ => f0 h (fun S4 h4 => ⟨m_ok h4, sm_first (k := s + 1) h4 gg h5' (nI_1 s) ⟨m_ok h4, sm_end (k := s) h4 gg h5' (by omega) rfl ⟨m_ok h4, rd 4 h4 rfl h5' ?_⟩⟩⟩), fun z => absurd z e2⟩
  have go : (mF M 179 0).2 4 b = nI (gO M b) := g3
  rw [mv 4 h4 rfl h5', go]
  by_cases z : gO M b = 0
  · rw [if_pos z] at ef et
    refine ⟨fun y => absurd (by rw [z]; rfl) y, fun _ => ⟨m_ok h4, rd 4 h4 rfl h5' ?_⟩⟩
    rw [mv 4 h4 rfl h5', go]
    refine ⟨fun y => absurd (by rw [z]; rfl) y, fun _ => ⟨t - f + 1, ?_⟩⟩
    rw [show nI ((s + 1) * (gW M b - gO M b)) - 1 = nI f from by rw [ef]; exact pk_sub (b := 1) pos, nI_1, ← et]
    exact lp_ms2 h4 h5' ht (t - f) f 0 (nI f) (by omega) rfl (k S4 h4)
  · rw [if_neg z] at ef et
    have o1 : ¬ nI (gO M b) = 0 := nI_ne0 (by omega) (by omega)
    refine ⟨fun _ => ⟨m_ok h4, rd 4 h4 rfl h5' ?_⟩, fun y => absurd y o1⟩
    rw [mv 4 h4 rfl h5', go]
    refine ⟨fun _ => ⟨t - f + 1, ?_⟩, fun y => absurd y o1⟩
    rw [← ef, ← et]
    exact lp_ms2 h4 h5' ht (t - f) f 0 (nI f) (by omega) rfl (k S4 h4)
end SE
section SF
variable {a b c d : Nat} {W : HS → Prop} {S : HS} {x y z u w : Int32} {Post : Int32 → HS → Prop}
theorem cs_seam (hW : ∀ S, LI a b c d S → W S) (h : LI a b c d S) (k : ∀ r1 S7, (ok S7 b 5 ∧ wX5_seam b x y S7 (fun r2 S8 => TL b c W r1 r2 S8)) → Post r1 S7) : wL_seam (some a) x y (some c) S Post := by
  obtain ⟨ad, T, hI, hR, ht, rfl, rfl, rfl, rfl⟩ := h
  obtain ⟨hI', hN, v⟩ := LIx hI hR
  have bad : (¬ ∃ b s, b < tN T ∧ s + 1 < tS T b ∧ x = nI b ∧ y = nI s) → Post 1 S := fun e =>
    k 1 S ⟨m_ok hI', m_seam1 hI' hN v e (fun S4 h4 => fin_th hW rfl rfl rfl w1n h4 hR ht)⟩
  have h5 := v.1
  refine ⟨_, rfl, (s_ref hI).1, (s_ref hI).1, ?_⟩
  by_cases zb : ∃ b, b < tN T ∧ x = nI b
  · obtain ⟨b, hb, rfl⟩ := zb
    have gg := hR.2.1 b hb
    have n16 : tS T b ≤ 16 := gg.1.2.2.2.2.2.2.2.2.2.1
    have eb : ∀ {b'}, b' < tN T → nI b = nI b' → b' = b := fun h1 h2 => ((nI_eq (by omega) (by omega)).mp h2).symm
    refine cB_y hI hb ?_
    by_cases zs : ∃ s, s < tS T b ∧ y = nI s
    · obtain ⟨s, hs, rfl⟩ := zs
      refine cS_y hI hb hs ⟨fun z => (by cases z), fun q e => ?_⟩
      cases e
      rw [nI_1]
      by_cases z1 : s + 1 < tS T b
      · have v1 : vk T 12 b s := vk12 hb hs (by decide) (by decide)
        have v2 : vk T 12 b (s + 1) := vk12 hb z1 (by decide) (by decide)
        have bad2 : ((gM T).2 10 (16 * b + s) = -1 ∨ (gM T).2 10 (16 * b + (s + 1)) = -1) → Post 2 S := fun e =>
          k 2 S ⟨m_ok hI', m_seam2 hI' hN v hb z1 e (fun S4 h4 => fin_th hW rfl rfl rfl w2n h4 hR ht)⟩
        refine cS_y hI hb z1 ⟨fun z => (by cases z), fun q2 e2 => ⟨fun z => (by cases z), fun q3 e3 => ⟨fun z => (by cases z), fun q4 e4 => ?_⟩⟩⟩
        cases e2
        cases e3
        cases e4
        have d1 := (hR.2.2.2.2.1 b s hb hs).2.1
        have d2 := (hR.2.2.2.2.1 b (s + 1) hb z1).2.1
        refine ⟨hI.ok v1, sp_wasPrinted hI v1 (fun y1 => ⟨fun _ => Or.inr ⟨rfl, bad2 (Or.inl (d1.symm.trans y1))⟩, fun z => absurd rfl z⟩) (fun y1 => ⟨fun z => absurd z w1n, fun _ => ⟨hI.ok v2, sp_wasPrinted hI v2 (fun y2 => ⟨fun z => absurd rfl z, fun _ => Or.inr ⟨rfl, bad2 (Or.inr (d2.symm.trans y2))⟩⟩) (fun y2 => ⟨fun _ => ⟨(b_ref hI hb).1, ?_⟩, fun z => absurd z w1n⟩)⟩⟩)⟩
        rw [d1] at y1
        rw [d2] at y2
        obtain ⟨s1, s2, s3, s4, -⟩ := gg.2.2.2.2.2 s hs
        obtain ⟨t1, t2, t3, t4, -⟩ := gg.2.2.2.2.2 (s + 1) z1
        obtain ⟨g1, g2, g3, g4, g5, g6, g7, g8, g9, -, g11, g12⟩ := id gg.1
        have kk := g11 (s + 1) (by omega) z1
        rw [Nat.add_sub_cancel] at kk
        have ee : eN (gC (gM T) b) (gW (gM T) b) (gO (gM T) b) s = s * (gW (gM T) b - gO (gM T) b) + gW (gM T) b := if_pos kk
        have m1 : (s + 1) * (gW (gM T) b - gO (gM T) b) = s * (gW (gM T) b - gO (gM T) b) + (gW (gM T) b - gO (gM T) b) := Nat.succ_mul _ _
        have fe2 := geo_fe gg.1 z1
        obtain ⟨f, ef⟩ : ∃ f, f = if gO (gM T) b = 0 then (s + 1) * (gW (gM T) b - gO (gM T) b) - 1 else (s + 1) * (gW (gM T) b - gO (gM T) b) := ⟨_, rfl⟩
        obtain ⟨t, et⟩ : ∃ t, t = if gO (gM T) b = 0 then eN (gC (gM T) b) (gW (gM T) b) (gO (gM T) b) s + 1 else eN (gC (gM T) b) (gW (gM T) b) (gO (gM T) b) s := ⟨_, rfl⟩
        have hft : f < t ∧ t ≤ 32 := by
          rw [ef, et]
          split <;> omega
        have pe : nI (eN (gC (gM T) b) (gW (gM T) b) (gO (gM T) b) s) - 1 = nI (eN (gC (gM T) b) (gW (gM T) b) (gO (gM T) b) s - 1) := pk_sub (b := 1) (by omega)
        refine sp_seamError (f := f) (t := t - 1) hI hb v1 v2 (by omega) (by omega) ?_ ?_ ?_
        · rw [t2, s3, pe]
          by_cases z : gO (gM T) b = 0
          · rw [if_pos z] at ef
            rw [if_neg (nI_nlt (by omega) (by omega)), ef]
            congr 1
            omega
          · rw [if_neg z] at ef
            by_cases y : gO (gM T) b = 1
            · rw [if_neg (nI_nlt (by omega) (by omega)), ef]
              congr 1
              omega
            · rw [if_pos (nI_lt (by omega) (by omega)), ef]
        · rw [t2, s3, pe]
          by_cases z : gO (gM T) b = 0
          · rw [if_pos z] at et
            rw [if_pos (nI_lt (by omega) (by omega)), et]
            congr 1
            omega
          · rw [if_neg z] at et
            rw [if_neg (nI_nlt (by omega) (by omega)), et]
        · have en : gmx2 (fun r c => cerr T b (32 * r + c)) f (t - 1 + 1 - f) 8 0 0 = gmx2 (fun c r => merr (gM T) b (256 * b + 32 * r + c)) 0 8 (t - f) f 0 := by
            rw [show t - 1 + 1 - f = t - f from by omega]
            refine gmx2_swap (fun i j h1 h2 h3 => ?_)
            rw [cerr_eq hR hb (by omega), ← Nat.add_assoc]
          refine rtn hI (fun ad' S3 h3 e0 e15 e17 e18 eJ => k 0 S3 ?_)
          rw [← e15] at hW ⊢
          exact ⟨m_ok h3, m_seam0 h3 hN v hb z1 y1 y2 ef et (by omega) hft.2 (fun S4 h4 => fin_ok hW e0 e17 e18 eJ (by rw [en]) h4 rfl hR ht)⟩
      · refine cS_n (x := nI (s + 1)) hI hb (fun ⟨s', a1, a2⟩ => ?_) ⟨fun z => (by cases z), fun q2 e2 => ⟨fun z => (by cases z), fun q3 e3 => ⟨fun _ => Or.inl ⟨rfl, bad ?_⟩, fun q4 e4 => (by cases e4)⟩⟩⟩
        · have := (nI_eq (by omega) (by omega)).mp a2
          omega
        · rintro ⟨b', s', h1, h2, h3, h4⟩
          have e1 := eb h1 h3
          subst e1
          have := (nI_eq (by omega) (by omega)).mp h4
          omega
    · refine cS_n hI hb zs ⟨fun _ => ⟨fun z => (by cases z), fun q e => ⟨fun _ => Or.inl ⟨rfl, bad ?_⟩, fun q2 e2 => (by cases e2)⟩⟩, fun q e => (by cases e)⟩
      rintro ⟨b', s', h1, h2, h3, h4⟩
      have e1 := eb h1 h3
      subst e1
      exact zs ⟨s', by omega, h4⟩
  · refine cB_n hI zb (sp_stripAt0 ⟨fun _ => ⟨fun _ => Or.inl ⟨rfl, bad ?_⟩, fun q e => (by cases e)⟩, fun q e => (by cases e)⟩)
    rintro ⟨b', s', h1, h2, h3, h4⟩
    exact zb ⟨b', h1, h3⟩
end SF
