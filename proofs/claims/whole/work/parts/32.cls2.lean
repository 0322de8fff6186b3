/-- a sum as a loop makes it: d more summands from i on, a so far -/
def acc (f : Nat → Int32) : Nat → Nat → Int32 → Int32
  | 0, _, a => a
  | d + 1, i, a => acc f d (i + 1) (a + f i)
/-- the greatest, as a loop finds it -/
def gmx (f : Nat → Int32) : Nat → Nat → Int32 → Int32
  | 0, _, a => a
  | d + 1, i, a => gmx f d (i + 1) (if a < f i then f i else a)
/-- what a nozzle lays: bl what is blocked, ds what is wanted, g the gain -/
def noz (bl ds : Nat → Int32) (g : Int32) (r : Nat) : Int32 :=
  if bl r = 0 then
    (if (15 : Int32) < ds r + ((if r + 1 < 8 ∧ ¬ bl (r + 1) = 0 then ds (r + 1) else 0) + 1) / 2 + (if 0 < r ∧ ¬ bl (r - 1) = 0 then ds (r - 1) else 0) / 2 then 15
     else ds r + ((if r + 1 < 8 ∧ ¬ bl (r + 1) = 0 then ds (r + 1) else 0) + 1) / 2 + (if 0 < r ∧ ¬ bl (r - 1) = 0 then ds (r - 1) else 0) / 2) * g / 100
  else 0
section CL2
variable {ad : Nat → Nat → Nat → Nat} {T : TT} {S : HS}
theorem inv_sIe (h : INV ad T S) {kd i j c : Nat} {x : Int32} {S' : HS} (v : vk T kd i j) (e : S' = sI S c (ad kd i j) x) : INV ad (uF T kd i j c x) S' := by rw [e]; exact h.sI v c x
theorem inv_sAe (h : INV ad T S) {kd i j n : Nat} {x : Int32} {S' : HS} (v : vk T kd i j) (e : S' = sA S (ad kd i j) n x) : INV ad (uA T kd i j n x) S' := by rw [e]; exact h.sA v n x
theorem inv_sR70e (h : INV ad T S) {p : Nat} (hp : p < 3) (o : Option Nat) {S' : HS} (e : S' = sR S 70 (ad 3 p 0) (o.map (fun b => ad 6 b 0))) : INV ad (uB T p o) S' := by rw [e]; exact h.sR70 hp o
theorem inv_sR71e (h : INV ad T S) {p : Nat} (hp : p < 3) (o : Option (Nat × Nat)) {S' : HS} (e : S' = sR S 71 (ad 3 p 0) (o.map (fun q => ad 12 q.1 q.2))) : INV ad (uP T p o) S' := by rw [e]; exact h.sR71 hp o
theorem cblk_n {p m : Nat} (hm : m < 2 ^ 31) : cblk T p (nI m) ↔ (m < 8 ∧ ¬ tA T 4 p 0 m = 0) := by
  unfold cblk
  rw [nI_clamp hm]
  constructor
  · rintro ⟨-, a, b⟩
    exact ⟨(nI_ltI hm (by decide)).mp a, b⟩
  · rintro ⟨a, b⟩
    exact ⟨nI_pos' hm, (nI_ltI hm (by decide)).mpr a, b⟩
theorem cblk_m1 {p : Nat} : ¬ cblk T p (-1) := fun q => absurd q.1 (by decide)
theorem sp_held (h : INV ad T S) {p m : Nat} (hp : p < 3) (hm : m < 2 ^ 31) {Q : Int32 → HS → Prop} (k : Q (if m < 8 ∧ ¬ tA T 4 p 0 m = 0 then tA T 5 p 0 m else 0) S) : wX2_doseHeldBack (ad 3 p 0) (nI m) S Q := by
  have h1 : ok S (ad 3 p 0) 2 := h.ok (vk3 hp (by decide) (by decide))
  refine ⟨h1, sp_isBlocked h hp (fun z => ⟨fun _ => ?_, fun e => absurd rfl e⟩) (fun z => ⟨fun e => absurd e (by decide), fun _ => ⟨h1, sp_doseOf h hp ?_⟩⟩)⟩
  · rw [if_neg (fun q => z ((cblk_n hm).mpr q))] at k; exact k
  · have z' := (cblk_n hm).mp z
    rw [if_pos z'] at k
    unfold cdose
    rw [if_pos ⟨z.1, z.2.1⟩, nI_clamp hm]
    exact k
theorem sp_held1 (h : INV ad T S) {p : Nat} (hp : p < 3) {Q : Int32 → HS → Prop} (k : Q 0 S) : wX2_doseHeldBack (ad 3 p 0) (-1) S Q := by
  have h1 : ok S (ad 3 p 0) 2 := h.ok (vk3 hp (by decide) (by decide))
  exact ⟨h1, sp_isBlocked h hp (fun _ => ⟨fun _ => k, fun e => absurd rfl e⟩) (fun z => absurd z cblk_m1)⟩
theorem cdose_n {p r : Nat} (hr : r < 8) : cdose T p (nI r) = tA T 5 p 0 r := by
  unfold cdose
  rw [if_pos ⟨nI_pos' (by omega), (nI_ltI (by omega) (by decide)).mpr hr⟩, nI_clamp (by omega)]
theorem sp_laidInRow (h : INV ad T S) {p r : Nat} (hp : p < 3) (hr : r < 8) {Q : Int32 → HS → Prop} (k : Q (noz (tA T 4 p 0) (tA T 5 p 0) (tF T 3 p 0 64) r) S) : wX2_laidInRow (ad 3 p 0) (nI r) S Q := by
  have h1 : ok S (ad 3 p 0) 2 := h.ok (vk3 hp (by decide) (by decide))
  unfold noz at k
  refine ⟨h1, sp_isBlocked h hp (fun z => ⟨fun _ => ⟨h1, ?_⟩, fun e => absurd rfl e⟩) (fun z => ⟨fun e => absurd e (by decide), fun _ => ?_⟩)⟩
  · have z0 : tA T 4 p 0 r = 0 := by
      by_cases q : tA T 4 p 0 r = 0
      · exact q
      · exact absurd ((cblk_n (by omega)).mpr ⟨hr, q⟩) z
    rw [if_pos z0] at k
    rw [nI_1]
    refine sp_held h hp (by omega) ⟨h1, ?_⟩
    have step : ∀ x : Int32, x = (if 0 < r ∧ ¬ tA T 4 p 0 (r - 1) = 0 then tA T 5 p 0 (r - 1) else 0) → (ok S (ad 3 p 0) 2 ∧ (wX2_doseOf (ad 3 p 0) (nI r) S (fun r4 S4 => (ok S4 (ad 3 p 0) 2 ∧ Q (((if (15 : Int32) < ((r4 + (((if r + 1 < 8 ∧ ¬ tA T 4 p 0 (r + 1) = 0 then tA T 5 p 0 (r + 1) else 0) + (1 : Int32)) / (2 : Int32))) + (x / (2 : Int32))) then (15 : Int32) else ((r4 + (((if r + 1 < 8 ∧ ¬ tA T 4 p 0 (r + 1) = 0 then tA T 5 p 0 (r + 1) else 0) + (1 : Int32)) / (2 : Int32))) + (x / (2 : Int32)))) * (gI S4 64 (ad 3 p 0))) / (100 : Int32)) S4)))) := by
      intro x hx
      refine ⟨h1, sp_doseOf h hp ⟨h1, ?_⟩⟩
      rw [h.I (vk3 hp (by decide) (by decide)), hx]
      rw [cdose_n hr]
      exact k
    rcases Nat.eq_zero_or_pos r with e | e
    · have e2 : nI r - (1 : Int32) = -1 := by rw [e]; decide
      rw [e2]
      refine sp_held1 h hp (step 0 ?_)
      rw [if_neg (fun q => by omega)]
    · have e2 : nI r - (1 : Int32) = nI (r - 1) := pk_sub (a := r) (b := 1) e
      rw [e2]
      refine sp_held h hp (by omega) (step _ ?_)
      by_cases q : tA T 4 p 0 (r - 1) = 0
      · rw [if_neg (fun z => z.2 q), if_neg (fun z => z.2 q)]
      · rw [if_pos ⟨by omega, q⟩, if_pos ⟨e, q⟩]
  · rw [if_neg (((cblk_n (by omega)).mp z).2)] at k
    exact k
theorem lp_bc (h : INV ad T S) {p : Nat} (hp : p < 3) {K : Int32 → Int32 → HS → Prop} : ∀ (d i : Nat) (a m : Int32), i + d = 8 → m = nI i → K (acc (fun r => if tA T 4 p 0 r = 0 then 0 else 1) d i a) (nI 8) S → wX2_blockedCount_L4 (ad 3 p 0) (d + 1) a m S K := by
  obtain ⟨h1, h2, h3, h4, -⟩ := p_bl h hp
  intro d
  induction d with
  | zero =>
    intro i a m hi hm k
    subst hm
    obtain rfl : i = 8 := by omega
    exact ⟨h1, fun o ho => ⟨_, ho.trans h2, h3, ⟨fun _ => k, fun z => absurd (by rw [h4]; exact nI_le (Nat.le_refl 8) (by decide)) z⟩⟩⟩
  | succ d ih =>
    intro i a m hi hm k
    subst hm
    refine ⟨h1, fun o ho => ⟨_, ho.trans h2, h3, ⟨fun z => absurd z (by rw [h4]; exact nI_ge (by omega) (by decide)), fun _ => ⟨h1, fun o2 ho2 => ⟨_, ho2.trans h2, h3, by rw [h4]; exact vp_in_nI (by omega) (by decide), ?_⟩⟩⟩⟩⟩
    rw [nI_clamp (by omega), h.A (vk3 hp (by decide) (by decide))]
    refine ⟨fun e => ih (i + 1) a _ (by omega) (nI_1 i) ?_, fun e => ih (i + 1) (a + 1) _ (by omega) (nI_1 i) ?_⟩
    · have k2 : acc (fun r => if tA T 4 p 0 r = 0 then 0 else 1) (d + 1) i a = acc (fun r => if tA T 4 p 0 r = 0 then 0 else 1) d (i + 1) a := by
        rw [acc, if_pos e, Int32.add_zero]
      rw [← k2]; exact k
    · have k2 : acc (fun r => if tA T 4 p 0 r = 0 then 0 else 1) (d + 1) i a = acc (fun r => if tA T 4 p 0 r = 0 then 0 else 1) d (i + 1) (a + 1) := by
        rw [acc, if_neg e]
      rw [← k2]; exact k
theorem sp_blockedCount (h : INV ad T S) {p : Nat} (hp : p < 3) {Q : Int32 → HS → Prop} (k : Q (acc (fun r => if tA T 4 p 0 r = 0 then 0 else 1) 8 0 0) S) : wX2_blockedCount (ad 3 p 0) S Q :=
  ⟨9, lp_bc h hp 8 0 0 0 rfl nI_0.symm k⟩
/-- the rows from i on set to 0 -/
def uz (kd i j : Nat) : Nat → Nat → TT → TT
  | 0, _, T => T
  | d + 1, n, T => uz kd i j d (n + 1) (uA T kd i j n 0)
theorem lp_fn {p : Nat} (hp : p < 3) {K : Int32 → HS → Prop} : ∀ (d i : Nat) (m : Int32) (T : TT) (S : HS), INV ad T S → i + d = 8 → m = nI i → (∀ S', INV ad (uz 4 p 0 d i T) S' → K (nI 8) S') → wX2_freeNozzles_L2 (ad 3 p 0) (d + 1) m S K := by
  intro d
  induction d with
  | zero =>
    intro i m T S h hi hm k
    obtain ⟨h1, h2, h3, h4, -⟩ := p_bl h hp
    subst hm
    obtain rfl : i = 8 := by omega
    exact ⟨h1, fun o ho => ⟨_, ho.trans h2, h3, ⟨fun _ => k _ h, fun z => absurd (by rw [h4]; exact nI_le (Nat.le_refl 8) (by decide)) z⟩⟩⟩
  | succ d ih =>
    intro i m T S h hi hm k
    obtain ⟨h1, h2, h3, h4, -⟩ := p_bl h hp
    subst hm
    refine ⟨h1, fun o ho => ⟨_, ho.trans h2, h3, ⟨fun z => absurd z (by rw [h4]; exact nI_ge (by omega) (by decide)), fun _ => ⟨h1, fun o2 ho2 => ⟨_, ho2.trans h2, h3, by rw [h4]; exact vp_in_nI (by omega) (by decide), fun S1 e1 => ?_⟩⟩⟩⟩⟩
    subst e1
    rw [nI_clamp (by omega)]
    exact ih (i + 1) _ _ _ (h.sA (vk3 hp (by decide) (by decide)) _ _) (by omega) (nI_1 i) k
theorem sp_freeNozzles (h : INV ad T S) {p : Nat} (hp : p < 3) {Q : HS → Prop} (k : ∀ S', INV ad (uz 4 p 0 8 0 T) S' → Q S') : wX2_freeNozzles (ad 3 p 0) S Q :=
  ⟨9, lp_fn hp 8 0 0 T S h rfl nI_0.symm k⟩
/-- a printer takes a strip -/
def ustart (T : TT) (p b s : Nat) : TT :=
  uF (uF (uP (uB (uF (uF (uF T 12 b s 102 (-1)) 12 b s 103 1) 3 p 0 69 (tF T 3 p 0 69 - 1)) p (some b)) p (some (b, s))) 3 p 0 72 (nI b)) 3 p 0 73 (tF T 12 b s 98 - tF T 12 b s 97)
theorem sp_start (h : INV ad T S) {p b s : Nat} (hp : p < 3) (hv : vk T 12 b s) {Q : HS → Prop} (k : ∀ S', INV ad (ustart T p b s) S' → Q S') : wX2_start (ad 3 p 0) (some (ad 6 b 0)) (some (ad 12 b s)) (nI b) S Q := by
  have vp : ∀ T' : TT, vk T' 3 p 0 := fun _ => vk3 hp (by decide) (by decide)
  refine ⟨_, rfl, h.ok hv, fun S1 e1 => ?_⟩
  have h1 := inv_sIe h hv e1
  refine ⟨h1.ok hv, fun S2 e2 => ?_⟩
  have h2 := inv_sIe h1 hv e2
  refine ⟨h2.ok (vp _), h2.ok (vp _), fun S3 e3 => ?_⟩
  rw [h2.I (vp _)] at e3
  have h3 := inv_sIe h2 (vp _) e3
  refine ⟨h3.ok (vp _), fun S4 e4 => ?_⟩
  have h4 := inv_sR70e h3 hp (some b) e4
  refine ⟨h4.ok (vp _), fun S5 e5 => ?_⟩
  have h5 := inv_sR71e h4 hp (some (b, s)) e5
  refine ⟨h5.ok (vp _), fun S6 e6 => ?_⟩
  have h6 := inv_sIe h5 (vp _) e6
  refine ⟨h6.ok hv, h6.ok hv, h6.ok (vp _), fun S7 e7 => ?_⟩
  rw [h6.I hv, h6.I hv] at e7
  have h7 := inv_sIe h6 (vp _) e7
  refine k _ ?_
  have a1 : tF (uF (uF T 12 b s 102 (-1)) 12 b s 103 1) 3 p 0 69 = tF T 3 p 0 69 := by simp [tF_uF]
  have a2 : ∀ c, c = 97 ∨ c = 98 → tF (uF (uP (uB (uF (uF (uF T 12 b s 102 (-1)) 12 b s 103 1) 3 p 0 69 (tF T 3 p 0 69 - 1)) p (some b)) p (some (b, s))) 3 p 0 72 (nI b)) 12 b s c = tF T 12 b s c := by
    intro c hc
    rcases hc with rfl | rfl <;> simp [tF_uF, tF_uP, tF_uB]
  unfold ustart
  rw [a1] at h7
  rw [a2 98 (Or.inr rfl), a2 97 (Or.inl rfl)] at h7
  exact h7
end CL2
