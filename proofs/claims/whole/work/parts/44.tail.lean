/-! The law's tail of a call, and the parts of both sides with the choice made -/
def adJ (ad : Nat → Nat → Nat → Nat) (v : Nat) : Nat → Nat → Nat → Nat := fun kd i j => if kd = 100 then v else ad kd i j
def adD (ad : Nat → Nat → Nat → Nat) (v : Nat) : Nat → Nat → Nat → Nat := fun kd i j => if kd = 101 then v else ad kd i j
theorem vk_19 {T : TT} {kd i j : Nat} (v : vk T kd i j) : kd < 19 := by
  rcases v with ⟨a, -⟩ | ⟨-, a, -⟩ | ⟨-, a, -⟩ | ⟨-, a, -⟩ | ⟨a, -⟩ | ⟨a, -⟩ | ⟨-, a, -⟩ <;> omega
def TL (b c : Nat) (W : HS → Prop) (r1 r2 : Int32) (S : HS) : Prop := ok S b 5 ∧ wX5_thrown b S (fun r3 S9 => ((r3 = r1 → ((¬ r1 = 0 → W S9) ∧ (r1 = 0 → (ok S9 c 11 ∧ vp_in (0 : Int32) (gN S9 c) ∧ (((lg_cmp (gJ S9 c (0 : Int32).toNatClampNeg) (r2).toInt64) = 0 → W S9) ∧ (¬ (lg_cmp (gJ S9 c (0 : Int32).toNatClampNeg) (r2).toInt64) = 0 → False)))))) ∧ (¬ r3 = r1 → False)))
def LI (a b c d : Nat) (S : HS) : Prop := ∃ ad T, INV ad T S ∧ RR T (gM T) ∧ RRt T ∧ ad 0 0 0 = a ∧ ad 15 0 0 = b ∧ ad 17 0 0 = c ∧ ad 18 0 0 = d
theorem RR_TM {T : TT} {M M' : MM} (h : RR T M) : RR (TM T M') M := h
theorem RR_th {T : TT} {M : MM} {w : Int32} (h : RR T M) : RR T (mF M 179 w) := h
theorem cl0 : (0 : Int32).toNatClampNeg = 0 := by decide
section TAIL
variable {ad : Nat → Nat → Nat → Nat} {T : TT} {M : MM} {S : HS}
theorem INV_J (h : INV ad T S) {v : Int64} {S' : HS} (e : S' = sJ S (ad 17 0 0) 0 v) : INV (adJ ad v.toBitVec.toNat) T S' := by
  subst e
  obtain ⟨h1, ⟨a1, a2, a3, a4, a5, a6, a7, a8, a9⟩, tag, t1, t2, t3⟩ := h
  refine ⟨fun kd i j w => ?_, ⟨a1, a2, a3, a4, a5, fun kd i j w hd => ?_, a7, a8, a9⟩, tag, fun kd i j w => ?_, ?_, t3⟩
  · have e : adJ ad v.toBitVec.toNat kd i j = ad kd i j := if_neg (by have := vk_19 w; omega)
    rw [e]
    exact h1 kd i j w
  · rcases hd with rfl | rfl | rfl
    · exact a6 _ _ _ w (Or.inl rfl)
    · exact a6 _ _ _ w (Or.inr (Or.inl rfl))
    · exact a6 _ _ _ w (Or.inr (Or.inr rfl))
  · have e : adJ ad v.toBitVec.toNat kd i j = ad kd i j := if_neg (by have := vk_19 w; omega)
    rw [e]
    exact t1 kd i j w
  · show (gJ (sJ S (ad 17 0 0) 0 v) (ad 17 0 0) 0).toBitVec.toNat = v.toBitVec.toNat
    rw [gJ_sJ, if_pos ⟨rfl, rfl⟩]
theorem INV_D (h : INV ad T S) {v : UInt64} {S' : HS} (e : S' = sD S (ad 18 0 0) 0 v) : INV (adD ad v.toNat) T S' := by
  subst e
  obtain ⟨h1, ⟨a1, a2, a3, a4, a5, a6, a7, a8, a9⟩, tag, t1, t2, t3⟩ := h
  refine ⟨fun kd i j w => ?_, ⟨a1, a2, a3, a4, a5, fun kd i j w hd => ?_, a7, a8, a9⟩, tag, fun kd i j w => ?_, t2, ?_⟩
  · have e : adD ad v.toNat kd i j = ad kd i j := if_neg (by have := vk_19 w; omega)
    rw [e]
    exact h1 kd i j w
  · rcases hd with rfl | rfl | rfl
    · exact a6 _ _ _ w (Or.inl rfl)
    · exact a6 _ _ _ w (Or.inr (Or.inl rfl))
    · exact a6 _ _ _ w (Or.inr (Or.inr rfl))
  · have e : adD ad v.toNat kd i j = ad kd i j := if_neg (by have := vk_19 w; omega)
    rw [e]
    exact t1 kd i j w
  · show (gD (sD S (ad 18 0 0) 0 v) (ad 18 0 0) 0).toNat = v.toNat
    rw [gD_sD, if_pos ⟨rfl, rfl⟩]
theorem o_ref (h : INV ad T S) : ok S (ad 17 0 0) 11 ∧ gN S (ad 17 0 0) = 1 ∧ ok S (ad 18 0 0) 12 ∧ gN S (ad 18 0 0) = 1 :=
  ⟨h.ok (vk17 (by decide) (by decide)), h.n (vk17 (by decide) (by decide)) (by decide), h.ok (vk17 (by decide) (by decide)), h.n (vk17 (by decide) (by decide)) (by decide)⟩
theorem J_of (h : INV ad T S) {v : Int64} (e : ad 100 0 0 = v.toBitVec.toNat) : gJ S (ad 17 0 0) 0 = v := by
  have := h.2.2.choose_spec.2.1
  rw [e] at this
  exact Int64.toBitVec_inj.mp (BitVec.eq_of_toNat_eq this)
theorem D_of (h : INV ad T S) {v : UInt64} (e : ad 101 0 0 = v.toNat) : gD S (ad 18 0 0) 0 = v := by
  have := h.2.2.choose_spec.2.2
  rw [e] at this
  exact UInt64.toNat_inj.mp this
/-- a call returns -/
theorem rtn (h : INV ad T S) {v : Int64} {Q : Int32 → HS → Prop} (k : ∀ ad' S3, INV ad' (TM T (gM T)) S3 → ad' 0 0 0 = ad 0 0 0 → ad' 15 0 0 = ad 15 0 0 → ad' 17 0 0 = ad 17 0 0 → ad' 18 0 0 = ad 18 0 0 → ad' 100 0 0 = v.toBitVec.toNat → Q 0 S3) : ∃ q2, some (ad 17 0 0) = some q2 ∧ (ok S q2 11 ∧ vp_in (0 : Int32) (gN S q2) ∧ (∀ S3, S3 = sJ S q2 (0 : Int32).toNatClampNeg v → Q (0 : Int32) S3)) := by
  obtain ⟨o1, o2, -, -⟩ := o_ref h
  refine ⟨_, rfl, o1, by rw [o2]; exact vp_in_nI (n := 0) (by decide) (by decide), fun S3 e => ?_⟩
  rw [cl0] at e
  have := INV_J h e
  exact k (adJ ad v.toBitVec.toNat) S3 (by rw [TM_gM]; exact this) rfl rfl rfl rfl rfl
theorem fin_ok {a c d : Nat} {W : HS → Prop} (hW : ∀ S, LI a (ad 15 0 0) c d S → W S) (ea : ad 0 0 0 = a) (ec : ad 17 0 0 = c) (ed : ad 18 0 0 = d) {v : Int64} {r2 : Int32} (hJ : ad 100 0 0 = v.toBitVec.toNat) (ev : v = r2.toInt64) (h : INV ad (TM T M) S) (h179 : M.1 179 = 0) (hR : RR T M) (ht : RRt T) : TL (ad 15 0 0) c W 0 r2 S := by
  subst ec
  have w : W S := hW S ⟨ad, TM T M, h, by rw [gM_TM]; exact hR, ht, ea, rfl, rfl, ed⟩
  have hj := J_of h hJ
  refine ⟨m_ok h, sm_thrown h ⟨fun _ => ⟨fun z => absurd rfl z, fun _ => ⟨(o_ref h).1, by rw [(o_ref h).2.1]; exact vp_in_nI (n := 0) (by decide) (by decide), fun _ => w, fun z => z ?_⟩⟩, fun z => z h179⟩⟩
  rw [cl0, hj, ev]
  exact (lg_cmp_eq _ _).mpr rfl
theorem fin_th {a c d : Nat} {W : HS → Prop} (hW : ∀ S, LI a (ad 15 0 0) c d S → W S) (ea : ad 0 0 0 = a) (ec : ad 17 0 0 = c) (ed : ad 18 0 0 = d) {w r2 : Int32} (hw : ¬ w = 0) (h : INV ad (TM T (mF M 179 w)) S) (hR : RR T M) (ht : RRt T) : TL (ad 15 0 0) c W w r2 S := by
  subst ec
  have k : W S := hW S ⟨ad, TM T (mF M 179 w), h, by rw [gM_TM]; exact hR, ht, ea, rfl, rfl, ed⟩
  exact ⟨m_ok h, sm_thrown h ⟨fun _ => ⟨fun _ => k, fun z => absurd z hw⟩, fun z => z rfl⟩⟩
theorem f1 (h : INV ad (TM T M) S) {w : Int32} (hw : ¬ w ≤ 0) {P Q : HS → Prop} (k : ∀ S', INV ad (TM T (mF M 179 w)) S' → Q S') : ok S (ad 15 0 0) 5 ∧ wX5_fails (ad 15 0 0) w S (fun r2 S2 => ((r2 = 0 → P S2) ∧ (¬ r2 = 0 → Q S2))) :=
  ⟨m_ok h, sm_f1 h hw (fun S' h' => ⟨fun z => absurd z (by decide), fun _ => k S' h'⟩)⟩
theorem f0 (h : INV ad (TM T M) S) {P Q : HS → Prop} (k : ∀ S', INV ad (TM T (mF M 179 0)) S' → P S') : ok S (ad 15 0 0) 5 ∧ wX5_fails (ad 15 0 0) 0 S (fun r2 S2 => ((r2 = 0 → P S2) ∧ (¬ r2 = 0 → Q S2))) :=
  ⟨m_ok h, sm_f0 h (fun S' h' => ⟨fun _ => k S' h', fun z => absurd rfl z⟩)⟩
theorem w1 : ¬ (1 : Int32) ≤ 0 := by decide
theorem w2 : ¬ (2 : Int32) ≤ 0 := by decide
theorem w1n : ¬ (1 : Int32) = 0 := by decide
theorem w2n : ¬ (2 : Int32) = 0 := by decide
section MY
variable {N : Nat} {ss : Nat → Nat} {x y z : Int32} {Q : Int32 → HS → Prop}
theorem mB_y (h : INV ad (TM T M) S) (hN : M.1 161 = nI N) (v : MVal M N ss) {b : Nat} (hb : b < N) (k : Q 1 S) : wX5_isBanner (ad 15 0 0) (nI b) S Q := sm_isBanner h hN v.1 (fun z => absurd ⟨b, hb, rfl⟩ z) (fun _ _ _ => k)
theorem mB_n (h : INV ad (TM T M) S) (hN : M.1 161 = nI N) (v : MVal M N ss) (z : ¬ ∃ b, b < N ∧ x = nI b) (k : Q 0 S) : wX5_isBanner (ad 15 0 0) x S Q := sm_isBanner h hN v.1 (fun _ => k) (fun b a e => absurd ⟨b, a, e⟩ z)
theorem mS_y (h : INV ad (TM T M) S) (hN : M.1 161 = nI N) (v : MVal M N ss) {b s : Nat} (hb : b < N) (hs : s < ss b) (k : Q 1 S) : wX5_isStrip (ad 15 0 0) (nI b) (nI s) S Q := sm_isStrip h hN v.1 (fun b hb => ⟨_, _, _, v.2.1 b hb⟩) (fun z => absurd ⟨b, s, hb, hs, rfl, rfl⟩ z) (fun _ _ _ _ _ _ => k)
theorem mS_n (h : INV ad (TM T M) S) (hN : M.1 161 = nI N) (v : MVal M N ss) (z : ¬ ∃ b s, b < N ∧ s < ss b ∧ x = nI b ∧ y = nI s) (k : Q 0 S) : wX5_isStrip (ad 15 0 0) x y S Q := sm_isStrip h hN v.1 (fun b hb => ⟨_, _, _, v.2.1 b hb⟩) (fun _ => k) (fun b s a1 a2 a3 a4 => absurd ⟨b, s, a1, a2, a3, a4⟩ z)
theorem mD_y (h : INV ad (TM T M) S) (hN : M.1 161 = nI N) (v : MVal M N ss) {b r c : Nat} (hb : b < N) (hr : r < 8) (hc : c < gC M b) (k : Q 1 S) : wX5_isDot (ad 15 0 0) (nI b) (nI r) (nI c) S Q := sm_isDot h hN v.1 (cc := gC M) (fun b hb => ⟨(v.2.1 b hb).1, (v.2.1 b hb).2.2.2.2.1⟩) (fun z => absurd ⟨b, r, c, hb, hr, hc, rfl, rfl, rfl⟩ z) (fun _ _ _ _ _ _ _ _ _ => k)
theorem mD_n (h : INV ad (TM T M) S) (hN : M.1 161 = nI N) (v : MVal M N ss) (w : ¬ ∃ b r c, b < N ∧ r < 8 ∧ c < gC M b ∧ x = nI b ∧ y = nI r ∧ z = nI c) (k : Q 0 S) : wX5_isDot (ad 15 0 0) x y z S Q := sm_isDot h hN v.1 (cc := gC M) (fun b hb => ⟨(v.2.1 b hb).1, (v.2.1 b hb).2.2.2.2.1⟩) (fun _ => k) (fun b r c a1 a2 a3 a4 a5 a6 => absurd ⟨b, r, c, a1, a2, a3, a4, a5, a6⟩ w)
theorem mR_y {r : Nat} (hr : r < 8) (k : Q 1 S) : wX5_isRow (nI r) S Q := sm_isRow (fun z => absurd ⟨r, hr, rfl⟩ z) (fun _ _ _ => k)
theorem mR_n (z : ¬ ∃ r, r < 8 ∧ x = nI r) (k : Q 0 S) : wX5_isRow x S Q := sm_isRow (fun _ => k) (fun r a e => absurd ⟨r, a, e⟩ z)
theorem mP_y {p : Nat} (hp : p < 3) (k : Q 1 S) : wX5_isPrinter (nI p) S Q := sm_isPrinter (fun z => absurd ⟨p, hp, rfl⟩ z) (fun _ _ _ => k)
theorem mP_n (z : ¬ ∃ p, p < 3 ∧ x = nI p) (k : Q 0 S) : wX5_isPrinter x S Q := sm_isPrinter (fun _ => k) (fun p a e => absurd ⟨p, a, e⟩ z)
theorem mI_y {zz : Int32} (z : y ≤ x ∧ x ≤ zz) (k : Q 1 S) : wX5_isIn x y zz S Q := sm_isIn (fun w => absurd z w) (fun _ => k)
theorem mI_n {zz : Int32} (z : ¬ (y ≤ x ∧ x ≤ zz)) (k : Q 0 S) : wX5_isIn x y zz S Q := sm_isIn (fun _ => k) (fun w => absurd w z)
end MY
section CY
variable {x y : Int32} {Q : Int32 → HS → Prop} {P : Option Nat → HS → Prop}
theorem cB_y (h : INV ad T S) {b : Nat} (hb : b < tN T) (k : P (some (ad 6 b 0)) S) : wX4_bannerAt (ad 0 0 0) (nI b) S P := by
  have h5 : tN T ≤ 5 := h.2.1.2.2.2.2.2.2.2.2.1
  refine sp_bannerAt h (fun z => absurd ⟨b, hb, rfl⟩ z) (fun b' hb' e => ?_)
  have := (nI_eq (by omega) (by omega)).mp e
  subst this
  exact k
theorem cB_n (h : INV ad T S) (z : ¬ ∃ b, b < tN T ∧ x = nI b) (k : P none S) : wX4_bannerAt (ad 0 0 0) x S P := sp_bannerAt h (fun _ => k) (fun b a e => absurd ⟨b, a, e⟩ z)
theorem cP_y (h : INV ad T S) {p : Nat} (hp : p < 3) (k : P (some (ad 3 p 0)) S) : wX4_printerAt (ad 0 0 0) (nI p) S P := by
  refine sp_printerAt h (fun z => absurd ⟨p, hp, rfl⟩ z) (fun b' hb' e => ?_)
  have := (nI_eq (by omega) (by omega)).mp e
  subst this
  exact k
theorem cP_n (h : INV ad T S) (z : ¬ ∃ b, b < 3 ∧ x = nI b) (k : P none S) : wX4_printerAt (ad 0 0 0) x S P := sp_printerAt h (fun _ => k) (fun b a e => absurd ⟨b, a, e⟩ z)
theorem cS_y (h : INV ad T S) {b s : Nat} (hb : b < tN T) (hs : s < tS T b) (k : P (some (ad 12 b s)) S) : wX4_stripAt (some (ad 6 b 0)) (nI s) S P := by
  have h16 : tS T b ≤ 16 := h.2.1.2.2.2.2.2.2.2.2.2 b hb
  refine sp_stripAt h hb (fun z => absurd ⟨s, hs, rfl⟩ z) (fun b' hb' e => ?_)
  have := (nI_eq (by omega) (by omega)).mp e
  subst this
  exact k
theorem cS_n (h : INV ad T S) {b : Nat} (hb : b < tN T) (z : ¬ ∃ s, s < tS T b ∧ x = nI s) (k : P none S) : wX4_stripAt (some (ad 6 b 0)) x S P := sp_stripAt h hb (fun _ => k) (fun b a e => absurd ⟨b, a, e⟩ z)
theorem cR_y {r : Nat} (hr : r < 8) (k : Q 1 S) : wX4_isRow (nI r) S Q := sp_isRow (fun z => absurd ⟨r, hr, rfl⟩ z) (fun _ _ _ => k)
theorem cR_n (z : ¬ ∃ r, r < 8 ∧ x = nI r) (k : Q 0 S) : wX4_isRow x S Q := sp_isRow (fun _ => k) (fun r a e => absurd ⟨r, a, e⟩ z)
theorem cI_y {z : Int32} (w : y ≤ x ∧ x ≤ z) (k : Q 1 S) : wX4_isWithin x y z S Q := sp_isWithin (fun u => absurd w u) (fun _ => k)
theorem cI_n {z : Int32} (w : ¬ (y ≤ x ∧ x ≤ z)) (k : Q 0 S) : wX4_isWithin x y z S Q := sp_isWithin (fun _ => k) (fun u => absurd u w)
theorem cC_y (h : INV ad T S) {b c C : Nat} (hb : b < tN T) (hC : tF T 6 b 0 0 = nI C) (hC2 : C ≤ 32) (hc : c < C) (k : Q 1 S) : wX0_hasColumn (ad 6 b 0) (nI c) S Q := sp_hasColumn h hb (fun z => absurd ⟨nI_pos' (by omega), by rw [hC]; exact nI_lt hc (by omega)⟩ z) (fun _ => k)
theorem cC_n (h : INV ad T S) {b C : Nat} (hb : b < tN T) (hC : tF T 6 b 0 0 = nI C) (hC2 : C ≤ 32) (z : ¬ ∃ c, c < C ∧ x = nI c) (k : Q 0 S) : wX0_hasColumn (ad 6 b 0) x S Q := sp_hasColumn h hb (fun _ => k) (fun w => by
  obtain ⟨j, hj, rfl⟩ := nI_of (Int32.not_lt.mpr w.1)
  rw [hC] at w
  exact absurd ⟨j, (nI_ltI hj (by omega)).mp w.2, rfl⟩ z)
end CY
theorem LIx (h : INV ad T S) (hR : RR T (gM T)) : INV ad (TM T (gM T)) S ∧ (gM T).1 161 = nI (tN T) ∧ MVal (gM T) (tN T) (tS T) :=
  ⟨by rw [TM_gM]; exact h, hR.1.2.1, RR_MV hR⟩
end TAIL
