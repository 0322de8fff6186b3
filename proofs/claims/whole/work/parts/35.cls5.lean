section CL5
variable {ad : Nat → Nat → Nat → Nat} {T : TT} {S : HS}
theorem lp_sp1 (h : INV ad T S) {b r C : Nat} (hb : b < tN T) (hr : r < 8) (hC : tF T 6 b 0 0 = nI C) (hC2 : C ≤ 32) {K : Int32 → Int32 → HS → Prop} : ∀ (d i : Nat) (a m : Int32), i + d = C → m = nI i → K (acc (fun c => if tA T 10 b 0 (32 * r + c) ≤ tF T 6 b 0 1 then 0 else 1) d i a) (nI C) S → wX0_spiltDots_L12 (ad 6 b 0) (nI r) (d + 1) a m S K := by
  obtain ⟨h1, h2, h3, h4, h5, h6, h7, h8, h9⟩ := b_ref h hb
  have v6 : vk T 6 b 0 := vk6 hb (by decide) (by decide)
  intro d
  induction d with
  | zero =>
    intro i a m hi hm k
    subst hm
    obtain rfl : i = C := by omega
    refine ⟨h1, ?_⟩
    rw [h.I v6, hC]
    exact ⟨fun _ => k, fun z => absurd (nI_le (Nat.le_refl i) (by omega)) z⟩
  | succ d ih =>
    intro i a m hi hm k
    subst hm
    refine ⟨h1, ?_⟩
    rw [h.I v6, hC]
    refine ⟨fun z => absurd z (nI_ge (by omega) (by omega)), fun _ => ⟨h1, fun o ho => ⟨_, ho.trans h3, h9, sp_at h (Or.inr (Or.inl rfl)) (vk6 hb (by decide) (by decide)) hr (by omega) ⟨h1, ?_⟩⟩⟩⟩
    rw [h.I v6]
    refine ⟨fun e => ih (i + 1) a _ (by omega) (nI_1 i) ?_, fun e => ih (i + 1) (a + 1) _ (by omega) (nI_1 i) ?_⟩
    · rw [acc, if_pos e, Int32.add_zero] at k; exact k
    · rw [acc, if_neg e] at k; exact k
theorem lp_sp2 (h : INV ad T S) {b C : Nat} (hb : b < tN T) (hC : tF T 6 b 0 0 = nI C) (hC2 : C ≤ 32) {K : Int32 → Int32 → HS → Prop} : ∀ (d r : Nat) (a m : Int32), r + d = 8 → m = nI r → K (acc2 (fun r c => if tA T 10 b 0 (32 * r + c) ≤ tF T 6 b 0 1 then 0 else 1) C d r a) (nI 8) S → wX0_spiltDots_L4 (ad 6 b 0) (d + 1) a m S K := by
  intro d
  induction d with
  | zero =>
    intro r a m hr hm k
    subst hm
    obtain rfl : r = 8 := by omega
    exact ⟨fun _ => k, fun z => absurd (nI_le (Nat.le_refl 8) (by decide)) z⟩
  | succ d ih =>
    intro r a m hr hm k
    subst hm
    exact ⟨fun z => absurd z (lle (k := 8) (by omega) (by decide)), fun _ => ⟨C + 1, lp_sp1 h hb (by omega) hC hC2 C 0 a 0 (by omega) nI_0.symm (ih (r + 1) _ _ (by omega) (nI_1 r) k)⟩⟩
theorem sp_spiltDots (h : INV ad T S) {b C : Nat} (hb : b < tN T) (hC : tF T 6 b 0 0 = nI C) (hC2 : C ≤ 32) {Q : Int32 → HS → Prop} (k : Q (acc2 (fun r c => if tA T 10 b 0 (32 * r + c) ≤ tF T 6 b 0 1 then 0 else 1) C 8 0 0) S) : wX0_spiltDots (ad 6 b 0) S Q :=
  ⟨9, lp_sp2 h hb hC hC2 8 0 0 0 rfl nI_0.symm k⟩
theorem lp_es1 (h : INV ad T S) {b r C : Nat} (hb : b < tN T) (hr : r < 8) (hC : tF T 6 b 0 0 = nI C) (hC2 : C ≤ 32) {K : Int32 → Int32 → HS → Prop} : ∀ (d i : Nat) (a m : Int32), i + d = C → m = nI i → K (acc (fun c => cerr T b (32 * r + c)) d i a) (nI C) S → wX0_errorSum_L12 (ad 6 b 0) (nI r) (d + 1) a m S K := by
  obtain ⟨h1, h2, h3, h4, h5, h6, h7, h8, h9⟩ := b_ref h hb
  have v6 : vk T 6 b 0 := vk6 hb (by decide) (by decide)
  intro d
  induction d with
  | zero =>
    intro i a m hi hm k
    subst hm
    obtain rfl : i = C := by omega
    refine ⟨h1, ?_⟩
    rw [h.I v6, hC]
    exact ⟨fun _ => k, fun z => absurd (nI_le (Nat.le_refl i) (by omega)) z⟩
  | succ d ih =>
    intro i a m hi hm k
    subst hm
    refine ⟨h1, ?_⟩
    rw [h.I v6, hC]
    exact ⟨fun z => absurd z (nI_ge (by omega) (by omega)), fun _ => ⟨h1, sp_errorAt h hb hr (by omega) (ih (i + 1) _ _ (by omega) (nI_1 i) k)⟩⟩
theorem lp_es2 (h : INV ad T S) {b C : Nat} (hb : b < tN T) (hC : tF T 6 b 0 0 = nI C) (hC2 : C ≤ 32) {K : Int32 → Int32 → HS → Prop} : ∀ (d r : Nat) (a m : Int32), r + d = 8 → m = nI r → K (acc2 (fun r c => cerr T b (32 * r + c)) C d r a) (nI 8) S → wX0_errorSum_L4 (ad 6 b 0) (d + 1) a m S K := by
  intro d
  induction d with
  | zero =>
    intro r a m hr hm k
    subst hm
    obtain rfl : r = 8 := by omega
    exact ⟨fun _ => k, fun z => absurd (nI_le (Nat.le_refl 8) (by decide)) z⟩
  | succ d ih =>
    intro r a m hr hm k
    subst hm
    exact ⟨fun z => absurd z (lle (k := 8) (by omega) (by decide)), fun _ => ⟨C + 1, lp_es1 h hb (by omega) hC hC2 C 0 a 0 (by omega) nI_0.symm (ih (r + 1) _ _ (by omega) (nI_1 r) k)⟩⟩
theorem sp_errorSum (h : INV ad T S) {b C : Nat} (hb : b < tN T) (hC : tF T 6 b 0 0 = nI C) (hC2 : C ≤ 32) {Q : Int32 → HS → Prop} (k : Q (acc2 (fun r c => cerr T b (32 * r + c)) C 8 0 0) S) : wX0_errorSum (ad 6 b 0) S Q :=
  ⟨9, lp_es2 h hb hC hC2 8 0 0 0 rfl nI_0.symm k⟩
theorem lp_se1 (h : INV ad T S) {b r t : Nat} {x3 : Int32} (hb : b < tN T) (hr : r < 8) (ht : t < 32) {K : Int32 → Int32 → HS → Prop} : ∀ (d i : Nat) (a m : Int32), i + d = t + 1 → m = nI i → K (gmx (fun c => cerr T b (32 * r + c)) d i a) (nI (t + 1)) S → wX0_seamError_L45 (ad 6 b 0) x3 (nI t) (nI r) (d + 1) a m S K := by
  obtain ⟨h1, -⟩ := b_ref h hb
  intro d
  induction d with
  | zero =>
    intro i a m hi hm k
    subst hm
    obtain rfl : i = t + 1 := by omega
    exact ⟨fun _ => k, fun z => absurd (nI_lt (by omega) (by omega)) z⟩
  | succ d ih =>
    intro i a m hi hm k
    subst hm
    exact ⟨fun z => absurd z (nI_nlt (by omega) (by omega)), fun _ => ⟨h1, sp_errorAt h hb hr (by omega) (ih (i + 1) _ _ (by omega) (nI_1 i) k)⟩⟩
theorem lp_se2 (h : INV ad T S) {b f t : Nat} (hb : b < tN T) (hf : f ≤ t) (ht : t < 32) {K : Int32 → Int32 → HS → Prop} : ∀ (d r : Nat) (a m : Int32), r + d = 8 → m = nI r → K (gmx2 (fun r c => cerr T b (32 * r + c)) f (t + 1 - f) d r a) (nI 8) S → wX0_seamError_L35 (ad 6 b 0) (nI f) (nI t) (d + 1) a m S K := by
  intro d
  induction d with
  | zero =>
    intro r a m hr hm k
    subst hm
    obtain rfl : r = 8 := by omega
    exact ⟨fun _ => k, fun z => absurd (nI_le (Nat.le_refl 8) (by decide)) z⟩
  | succ d ih =>
    intro r a m hr hm k
    subst hm
    exact ⟨fun z => absurd z (lle (k := 8) (by omega) (by decide)), fun _ => ⟨t + 1 - f + 1, lp_se1 h hb (by omega) ht (t + 1 - f) f a (nI f) (by omega) rfl (ih (r + 1) _ _ (by omega) (nI_1 r) k)⟩⟩
theorem sp_seamError (h : INV ad T S) {b s1 s2 f t : Nat} (hb : b < tN T) (v1 : vk T 12 b s1) (v2 : vk T 12 b s2) (hf : f ≤ t) (ht : t < 32) (e1 : (if tF T 12 b s2 97 < tF T 12 b s1 98 - 1 then tF T 12 b s2 97 else tF T 12 b s1 98 - 1) = nI f) (e2 : (if tF T 12 b s1 98 - 1 < tF T 12 b s2 97 then tF T 12 b s2 97 else tF T 12 b s1 98 - 1) = nI t) {Q : Int32 → HS → Prop} (k : Q (gmx2 (fun r c => cerr T b (32 * r + c)) f (t + 1 - f) 8 0 0) S) : wX0_seamError (ad 6 b 0) (some (ad 12 b s1)) (some (ad 12 b s2)) S Q := by
  refine ⟨_, rfl, h.ok v1, _, rfl, h.ok v2, h.ok v1, h.ok v2, 9, ?_⟩
  rw [h.I v1, h.I v2, e1, e2]
  exact lp_se2 h hb hf ht 8 0 0 0 rfl nI_0.symm k
theorem s_ref (h : INV ad T S) : ok S (ad 0 0 0) 4 ∧ gR S 128 (ad 0 0 0) = some (ad 1 0 0) ∧ gR S 129 (ad 0 0 0) = some (ad 2 0 0) ∧ ok S (ad 1 0 0) 8 ∧ gN S (ad 1 0 0) = 5 ∧ ok S (ad 2 0 0) 9 ∧ gN S (ad 2 0 0) = 3 ∧ (∀ b, b < 5 → gQ S (ad 1 0 0) b = if b < tN T then some (ad 6 b 0) else none) ∧ (∀ p, p < 3 → gQ S (ad 2 0 0) p = some (ad 3 p 0)) :=
  ⟨h.ok (vk0 (by decide)), h.2.1.1.1, h.2.1.1.2, h.ok (vk0 (by decide)), h.n (vk0 (by decide)) (by decide), h.ok (vk0 (by decide)), h.n (vk0 (by decide)) (by decide), h.2.1.2.1, h.2.1.2.2.1⟩
theorem nI_lt_of {j N : Nat} (hj : j < 2 ^ 31) (z : ¬ nI N ≤ nI j) : j < N := by
  rcases Nat.lt_or_ge j N with q | q
  · exact q
  · exact absurd (nI_le q hj) z
theorem sp_bannerAt (h : INV ad T S) {x : Int32} {Q : Option Nat → HS → Prop} (k0 : (¬ ∃ b, b < tN T ∧ x = nI b) → Q none S) (k1 : ∀ b, b < tN T → x = nI b → Q (some (ad 6 b 0)) S) : wX4_bannerAt (ad 0 0 0) x S Q := by
  obtain ⟨h1, h2, h3, h4, h5, h6, h7, h8, h9⟩ := s_ref h
  have h10 : tN T ≤ 5 := h.2.1.2.2.2.2.2.2.2.2.1
  refine ⟨fun z => k0 (fun ⟨b, q, e⟩ => absurd (e ▸ z) (nI_pos (by omega))), fun z0 => ⟨h1, fun o ho => ⟨_, ho.trans h2, h4, ⟨fun z => k0 (fun ⟨b, q, e⟩ => ?_), fun z1 => ⟨h1, fun o2 ho2 => ⟨_, ho2.trans h2, h4, ?_, fun o3 ho3 => ?_⟩⟩⟩⟩⟩⟩
  · rw [h5, e] at z
    exact absurd z (nI_ge (by omega) (by decide))
  · rw [h5] at z1 ⊢
    obtain ⟨j, hj, rfl⟩ := nI_of z0
    exact vp_in_nI (nI_lt_of hj z1) (by decide)
  · rw [h5] at z1
    obtain ⟨j, hj, rfl⟩ := nI_of z0
    rw [nI_clamp hj, h8 j (nI_lt_of hj z1)] at ho3
    by_cases q : j < tN T
    · rw [if_pos q] at ho3
      rw [ho3]
      exact k1 j q rfl
    · rw [if_neg q] at ho3
      rw [ho3]
      refine k0 (fun ⟨b, q2, e⟩ => ?_)
      have := (nI_eq hj (by omega)).mp e
      omega
theorem sp_printerAt (h : INV ad T S) {x : Int32} {Q : Option Nat → HS → Prop} (k0 : (¬ ∃ p, p < 3 ∧ x = nI p) → Q none S) (k1 : ∀ p, p < 3 → x = nI p → Q (some (ad 3 p 0)) S) : wX4_printerAt (ad 0 0 0) x S Q := by
  obtain ⟨h1, h2, h3, h4, h5, h6, h7, h8, h9⟩ := s_ref h
  refine ⟨fun z => k0 (fun ⟨b, q, e⟩ => absurd (e ▸ z) (nI_pos (by omega))), fun z0 => ⟨h1, fun o ho => ⟨_, ho.trans h3, h6, ⟨fun z => k0 (fun ⟨b, q, e⟩ => ?_), fun z1 => ⟨h1, fun o2 ho2 => ⟨_, ho2.trans h3, h6, ?_, fun o3 ho3 => ?_⟩⟩⟩⟩⟩⟩
  · rw [h7, e] at z
    exact absurd z (nI_ge (by omega) (by decide))
  · rw [h7] at z1 ⊢
    obtain ⟨j, hj, rfl⟩ := nI_of z0
    exact vp_in_nI (nI_lt_of hj z1) (by decide)
  · rw [h7] at z1
    obtain ⟨j, hj, rfl⟩ := nI_of z0
    rw [nI_clamp hj, h9 j (nI_lt_of hj z1)] at ho3
    rw [ho3]
    exact k1 j (nI_lt_of hj z1) rfl
theorem sp_stripAt (h : INV ad T S) {b : Nat} {x : Int32} (hb : b < tN T) {Q : Option Nat → HS → Prop} (k0 : (¬ ∃ s, s < tS T b ∧ x = nI s) → Q none S) (k1 : ∀ s, s < tS T b → x = nI s → Q (some (ad 12 b s)) S) : wX4_stripAt (some (ad 6 b 0)) x S Q :=
  ⟨fun e => (by cases e), fun q e => by cases e; exact ⟨(b_ref h hb).1, sp_stripOf h hb k0 k1⟩⟩
theorem sp_stripAt0 {x : Int32} {Q : Option Nat → HS → Prop} (k : Q none S) : wX4_stripAt none x S Q :=
  ⟨fun _ => k, fun q e => (by cases e)⟩
end CL5
