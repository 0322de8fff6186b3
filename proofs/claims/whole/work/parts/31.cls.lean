section CLS
variable {ad : Nat → Nat → Nat → Nat} {T : TT} {S : HS}
theorem lit (n : Nat) : (OfNat.ofNat n : Int32) = nI n := rfl
theorem lle {k r : Nat} (h : r < k) (hk : k < 2 ^ 31) : ¬ (OfNat.ofNat k : Int32) ≤ nI r := nI_ge h hk
theorem nmul (a b : Nat) : nI a * nI b = nI (a * b) := pk_mul a b
theorem vk6e {kd i j : Nat} (v : vk T kd i j) (h1 : 6 ≤ kd) (h2 : kd < 12) : i < tN T ∧ j = 0 := by
  rcases v with ⟨a, -⟩ | ⟨-, a, -⟩ | ⟨-, -, a, b⟩ | ⟨a, -⟩ | ⟨a, -⟩ | ⟨a, -⟩ | ⟨a, -⟩
  · omega
  · omega
  · exact ⟨a, b⟩
  · omega
  · omega
  · omega
  · omega
theorem vk12e {kd i j : Nat} (v : vk T kd i j) (h1 : 12 ≤ kd) (h2 : kd < 15) : i < tN T ∧ j < tS T i := by
  rcases v with ⟨a, -⟩ | ⟨-, a, -⟩ | ⟨-, a, -⟩ | ⟨-, -, a, b⟩ | ⟨a, -⟩ | ⟨a, -⟩ | ⟨a, -⟩
  · omega
  · omega
  · omega
  · exact ⟨a, b⟩
  · omega
  · omega
  · omega
theorem vkd {kd i j : Nat} (hd : kd = 7 ∨ kd = 9 ∨ kd = 13) (v : vk T kd i j) : vk T (kd + 1) i j := by
  rcases hd with rfl | rfl | rfl
  · obtain ⟨a, rfl⟩ := vk6e v (by decide) (by decide)
    exact vk6 a (by decide) (by decide)
  · obtain ⟨a, rfl⟩ := vk6e v (by decide) (by decide)
    exact vk6 a (by decide) (by decide)
  · obtain ⟨a, b⟩ := vk12e v (by decide) (by decide)
    exact vk12 a b (by decide) (by decide)
theorem sp_placeOf {r c : Nat} {Q : Int32 → HS → Prop} (hr : r < 8) (hc : c < 32) (k : Q (nI (32 * r + c)) S) : wX1_placeOf (nI r) (nI c) S Q := by
  refine ⟨fun h => absurd h (nI_pos (by omega)), fun _ => ⟨fun h => absurd h (lle hr (by decide)), fun _ => ⟨fun h => absurd h (nI_pos (by omega)), fun _ => ⟨fun h => absurd h (lle hc (by decide)), fun _ => ?_⟩⟩⟩⟩
  rw [show nI r * (32 : Int32) + nI c = nI (32 * r + c) from by rw [lit 32, nmul, nI_add, Nat.mul_comm]]
  exact k
theorem d_ref (h : INV ad T S) {kd i j : Nat} (hd : kd = 7 ∨ kd = 9 ∨ kd = 13) (v : vk T kd i j) : ok S (ad kd i j) 1 ∧ gR S 32 (ad kd i j) = some (ad (kd + 1) i j) ∧ ok S (ad (kd + 1) i j) 6 ∧ gN S (ad (kd + 1) i j) = 256 := by
  have v1 := vkd hd v
  refine ⟨?_, h.2.1.2.2.2.2.2.1 kd i j v hd, ?_, ?_⟩
  · have := h.ok v
    rcases hd with rfl | rfl | rfl <;> exact this
  · have := h.ok v1
    rcases hd with rfl | rfl | rfl <;> exact this
  · have := h.n v1 (by rcases hd with rfl | rfl | rfl <;> decide)
    rcases hd with rfl | rfl | rfl <;> exact this
theorem sp_at (h : INV ad T S) {kd i j r c : Nat} {Q : Int32 → HS → Prop} (hd : kd = 7 ∨ kd = 9 ∨ kd = 13) (v : vk T kd i j) (hr : r < 8) (hc : c < 32) (k : Q (tA T (kd + 1) i j (32 * r + c)) S) : wX1_at (ad kd i j) (nI r) (nI c) S Q := by
  obtain ⟨h1, h2, h3, h4⟩ := d_ref h hd v
  refine sp_placeOf hr hc ?_
  refine ⟨fun z => absurd z (nI_pos (by omega)), fun _ => ⟨h1, fun o1 ho1 => ⟨_, ho1.trans h2, h3, ⟨fun z => absurd z (by rw [h4]; exact nI_ge (by omega) (by decide)), fun _ => ⟨h1, fun o2 ho2 => ⟨_, ho2.trans h2, h3, by rw [h4]; exact vp_in_nI (by omega) (by decide), ?_⟩⟩⟩⟩⟩⟩
  rw [nI_clamp (by omega), h.A (vkd hd v)]
  exact k
theorem sp_replace (h : INV ad T S) {kd i j r c : Nat} {x : Int32} {Q : Int32 → HS → Prop} (hd : kd = 7 ∨ kd = 9 ∨ kd = 13) (v : vk T kd i j) (hr : r < 8) (hc : c < 32) (k : ∀ S', INV ad (uA T (kd + 1) i j (32 * r + c) x) S' → Q (tA T (kd + 1) i j (32 * r + c)) S') : wX1_replace (ad kd i j) (nI r) (nI c) x S Q := by
  obtain ⟨h1, h2, h3, h4⟩ := d_ref h hd v
  refine sp_placeOf hr hc ?_
  refine ⟨fun z => absurd z (nI_pos (by omega)), fun _ => ⟨h1, fun o1 ho1 => ⟨_, ho1.trans h2, h3, ⟨fun _ => ⟨h1, fun o2 ho2 => ⟨_, ho2.trans h2, h3, by rw [h4]; exact vp_in_nI (by omega) (by decide), ⟨h1, fun o3 ho3 => ⟨_, ho3.trans h2, h3, by rw [h4]; exact vp_in_nI (by omega) (by decide), fun S2 e2 => ?_⟩⟩⟩⟩, fun z => absurd (by rw [h4]; exact nI_lt (by omega) (by decide)) z⟩⟩⟩⟩
  subst e2
  rw [nI_clamp (by omega), h.A (vkd hd v)]
  exact k _ (h.sA (vkd hd v) _ _)
theorem sp_wasPrinted (h : INV ad T S) {b s : Nat} {Q : Int32 → HS → Prop} (v : vk T 12 b s) (k0 : tF T 12 b s 104 = -1 → Q 0 S) (k1 : ¬ tF T 12 b s 104 = -1 → Q 1 S) : wX3_wasPrinted (ad 12 b s) S Q := by
  refine ⟨h.ok v, ?_⟩
  rw [h.I v]
  exact ⟨k0, k1⟩
/-- what of a level a strip lays in a column -/
def cshare (T : TT) (b s : Nat) (lv : Int32) (c : Int32) : Int32 :=
  if c < tF T 12 b s 97 then 0 else if c < tF T 12 b s 98 then (if c < tF T 12 b s 100 then (if tF T 12 b s 99 ≤ c then lv else lv / 2) else (lv + 1) / 2) else 0
theorem sp_shareOf (h : INV ad T S) {b s : Nat} {lv c : Int32} {Q : Int32 → HS → Prop} (v : vk T 12 b s) (k : Q (cshare T b s lv c) S) : wX3_shareOf (ad 12 b s) lv c S Q := by
  unfold wX3_shareOf
  simp only [h.I v]
  unfold cshare at k
  refine ⟨h.ok v, fun z => ?_, fun z => ⟨h.ok v, fun z1 => ⟨h.ok v, fun z2 => ⟨h.ok v, fun z3 => ?_, fun z3 => ?_⟩, fun z2 => ?_⟩, fun z1 => ?_⟩⟩
  · rw [if_pos z] at k; exact k
  · rw [if_neg z, if_pos z1, if_pos z2, if_pos z3] at k; exact k
  · rw [if_neg z, if_pos z1, if_pos z2, if_neg z3] at k; exact k
  · rw [if_neg z, if_pos z1, if_neg z2] at k; exact k
  · rw [if_neg z, if_neg z1] at k; exact k
/-- printers -/
theorem p_bl (h : INV ad T S) {p : Nat} (hp : p < 3) : ok S (ad 3 p 0) 2 ∧ gR S 66 (ad 3 p 0) = some (ad 4 p 0) ∧ ok S (ad 4 p 0) 7 ∧ gN S (ad 4 p 0) = 8 ∧ gR S 67 (ad 3 p 0) = some (ad 5 p 0) ∧ ok S (ad 5 p 0) 6 ∧ gN S (ad 5 p 0) = 8 := by
  obtain ⟨a1, a2, -⟩ := h.2.1.2.2.2.1 p hp
  exact ⟨h.ok (vk3 hp (by decide) (by decide)), a1, h.ok (vk3 hp (by decide) (by decide)), h.n (vk3 hp (by decide) (by decide)) (by decide), a2, h.ok (vk3 hp (by decide) (by decide)), h.n (vk3 hp (by decide) (by decide)) (by decide)⟩
theorem sp_isPrinting (h : INV ad T S) {p : Nat} (hp : p < 3) {Q : Int32 → HS → Prop} (k0 : tP T p = none → Q 0 S) (k1 : ∀ q, tP T p = some q → Q 1 S) : wX2_isPrinting (ad 3 p 0) S Q := by
  obtain ⟨-, -, -, a4⟩ := h.2.1.2.2.2.1 p hp
  refine ⟨h.ok (vk3 hp (by decide) (by decide)), fun o ho => ⟨fun e => ?_, fun q e => ?_⟩⟩
  · refine k0 ?_
    rw [ho, a4] at e
    cases hq : tP T p with
    | none => rfl
    | some q => rw [hq] at e; cases e
  · rw [ho, a4] at e
    cases hq : tP T p with
    | none => rw [hq] at e; cases e
    | some q => exact k1 q hq
def ccorr (g : Int32) : Int32 := (10000 + g - 1) / g
theorem sp_correctByGain (h : INV ad T S) {p : Nat} (hp : p < 3) {Q : Int32 → HS → Prop} (hg : ¬ tF T 3 p 0 64 ≤ 0) (k : ∀ S', INV ad (uF T 3 p 0 65 (ccorr (tF T 3 p 0 64))) S' → Q (ccorr (tF T 3 p 0 64)) S') : wX2_correctByGain (ad 3 p 0) S Q := by
  have v : vk T 3 p 0 := vk3 hp (by decide) (by decide)
  have h1 : ok S (ad 3 p 0) 2 := h.ok v
  unfold wX2_correctByGain
  simp only [h.I v]
  refine ⟨h1, fun z => absurd z hg, fun _ => ⟨h1, h1, fun e => hg (by rw [e]; decide), h1, fun S1 e1 => ?_⟩⟩
  subst e1
  have h2 := h.sI v 65 (ccorr (tF T 3 p 0 64))
  refine ⟨h2.ok (vk3 hp (by decide) (by decide)), ?_⟩
  rw [show gI (sI S 65 (ad 3 p 0) (((10000 : Int32) + tF T 3 p 0 64 - 1) / tF T 3 p 0 64)) 65 (ad 3 p 0) = ccorr (tF T 3 p 0 64) from by rw [gI_sI, if_pos ⟨rfl, rfl⟩]; rfl]
  exact k _ h2
theorem sp_blockNozzle (h : INV ad T S) {p r : Nat} (hp : p < 3) (hr : r < 8) {Q : HS → Prop} (k : ∀ S', INV ad (uA T 4 p 0 r 1) S' → Q S') : wX2_blockNozzle (ad 3 p 0) (nI r) S Q := by
  obtain ⟨h1, h2, h3, h4, h5, h6, h7⟩ := p_bl h hp
  refine ⟨fun z => absurd z (nI_pos (by omega)), fun _ => ⟨h1, fun o1 ho1 => ⟨_, ho1.trans h2, h3, ⟨fun z => absurd z (by rw [h4]; exact nI_ge hr (by decide)), fun _ => ⟨h1, fun o2 ho2 => ⟨_, ho2.trans h2, h3, by rw [h4]; exact vp_in_nI hr (by decide), fun S1 e1 => ?_⟩⟩⟩⟩⟩⟩
  subst e1
  rw [nI_clamp (by omega)]
  exact k _ (h.sA (vk3 hp (by decide) (by decide)) _ _)
/-- is row r of printer p blocked -/
def cblk (T : TT) (p : Nat) (r : Int32) : Prop := 0 ≤ r ∧ r < nI 8 ∧ ¬ tA T 4 p 0 r.toNatClampNeg = 0
theorem vp_8 {x : Int32} (h0 : ¬ x < 0) (h8 : ¬ nI 8 ≤ x) : vp_in x 8 := by
  obtain ⟨j, hj, rfl⟩ := nI_of h0
  exact vp_in_nI (by
    rcases Nat.lt_or_ge j 8 with q | q
    · exact q
    · exact absurd (nI_le q hj) h8) (by decide)
theorem sp_isBlocked (h : INV ad T S) {p : Nat} {r : Int32} (hp : p < 3) {Q : Int32 → HS → Prop} (k0 : ¬ cblk T p r → Q 0 S) (k1 : cblk T p r → Q 1 S) : wX2_isBlocked (ad 3 p 0) r S Q := by
  obtain ⟨h1, h2, h3, h4, h5, h6, h7⟩ := p_bl h hp
  refine ⟨fun z => k0 (fun q => absurd z (Int32.not_lt.mpr q.1)), fun z0 => ⟨h1, fun o1 ho1 => ⟨_, ho1.trans h2, h3, ⟨fun z => k0 (fun q => absurd (by rw [h4] at z; exact z) (Int32.not_le.mpr q.2.1)), fun z1 => ⟨h1, fun o2 ho2 => ⟨_, ho2.trans h2, h3, by rw [h4] at z1 ⊢; exact vp_8 z0 z1, ?_⟩⟩⟩⟩⟩⟩
  rw [h.A (vk3 hp (by decide) (by decide))]
  rw [h4] at z1
  exact ⟨fun e => k0 (fun q => q.2.2 e), fun e => k1 ⟨Int32.not_lt.mp z0, Int32.not_le.mp z1, e⟩⟩
theorem sp_setDose (h : INV ad T S) {p r : Nat} {x : Int32} (hp : p < 3) (hr : r < 8) {Q : HS → Prop} (k : ∀ S', INV ad (uA T 5 p 0 r (if (15 : Int32) < x * tF T 3 p 0 65 / 100 then 15 else x * tF T 3 p 0 65 / 100)) S' → Q S') : wX2_setDose (ad 3 p 0) (nI r) x S Q := by
  obtain ⟨h1, h2, h3, h4, h5, h6, h7⟩ := p_bl h hp
  refine ⟨fun z => absurd z (nI_pos (by omega)), fun _ => ⟨h1, fun o1 ho1 => ⟨_, ho1.trans h5, h6, ⟨fun z => absurd z (by rw [h7]; exact nI_ge hr (by decide)), fun _ => ⟨h1, fun o2 ho2 => ⟨h1, ⟨_, ho2.trans h5, h6, by rw [h7]; exact vp_in_nI hr (by decide), fun S1 e1 => ?_⟩⟩⟩⟩⟩⟩⟩
  subst e1
  rw [nI_clamp (by omega), h.I (vk3 hp (by decide) (by decide))]
  exact k _ (h.sA (vk3 hp (by decide) (by decide)) _ _)
def cdose (T : TT) (p : Nat) (r : Int32) : Int32 := if 0 ≤ r ∧ r < nI 8 then tA T 5 p 0 r.toNatClampNeg else 0
theorem sp_doseOf (h : INV ad T S) {p : Nat} {r : Int32} (hp : p < 3) {Q : Int32 → HS → Prop} (k : Q (cdose T p r) S) : wX2_doseOf (ad 3 p 0) r S Q := by
  obtain ⟨h1, h2, h3, h4, h5, h6, h7⟩ := p_bl h hp
  unfold cdose at k
  refine ⟨fun z => ?_, fun z0 => ⟨h1, fun o1 ho1 => ⟨_, ho1.trans h5, h6, ⟨fun z => ?_, fun z1 => ⟨h1, fun o2 ho2 => ⟨_, ho2.trans h5, h6, by rw [h7] at z1 ⊢; exact vp_8 z0 z1, ?_⟩⟩⟩⟩⟩⟩
  · rw [if_neg (fun q => absurd z (Int32.not_lt.mpr q.1))] at k; exact k
  · rw [h7] at z
    rw [if_neg (fun q => absurd z (Int32.not_le.mpr q.2))] at k; exact k
  · rw [h7] at z1
    rw [if_pos ⟨Int32.not_lt.mp z0, Int32.not_le.mp z1⟩] at k
    rw [h.A (vk3 hp (by decide) (by decide))]
    exact k
end CLS
