/-- a strip lays x at the dot n -/
def ulay (T : TT) (b s n : Nat) (x : Int32) : TT :=
  uF (uA (uA T 14 b s n x) 10 b 0 n (tA T 10 b 0 n - tA T 14 b s n + x)) 6 b 0 7 (tF T 6 b 0 7 + x)
def cink (T : TT) (b n : Nat) : Int32 := if tF T 6 b 0 1 < tA T 10 b 0 n then tF T 6 b 0 1 else tA T 10 b 0 n
def cerr (T : TT) (b n : Nat) : Int32 := if 0 ≤ cink T b n - tA T 8 b 0 n then cink T b n - tA T 8 b 0 n else 0 - (cink T b n - tA T 8 b 0 n)
def fwn (P : Nat → Bool) : Nat → Nat → Option Nat
  | 0, _ => none
  | d + 1, i => if P i = true then some i else fwn P d (i + 1)
def acc2 (f : Nat → Nat → Int32) (C : Nat) : Nat → Nat → Int32 → Int32
  | 0, _, a => a
  | d + 1, r, a => acc2 f C d (r + 1) (acc (f r) C 0 a)
def gmx2 (f : Nat → Nat → Int32) (lo C : Nat) : Nat → Nat → Int32 → Int32
  | 0, _, a => a
  | d + 1, r, a => gmx2 f lo C d (r + 1) (gmx (f r) C lo a)
def ulev (b r : Nat) (x : Int32) : Nat → Nat → TT → TT
  | 0, _, T => T
  | d + 1, i, T => ulev b r x d (i + 1) (uA T 8 b 0 (32 * r + i) x)
def dos8 (p b s c : Nat) : Nat → Nat → TT → TT
  | 0, _, T => T
  | d + 1, r, T => dos8 p b s c d (r + 1) (uA T 5 p 0 r (if (15 : Int32) < cshare T b s (tA T 8 b 0 (32 * r + c)) (nI c) * tF T 3 p 0 65 / 100 then 15 else cshare T b s (tA T 8 b 0 (32 * r + c)) (nI c) * tF T 3 p 0 65 / 100))
def ulp (p b s n : Nat) (x : Int32) (T : TT) : TT := uF (ulay T b s n x) 3 p 0 68 (tF T 3 p 0 68 + x)
def lay8 (p b s c : Nat) : Nat → Nat → Int32 → TT → Int32 × TT
  | 0, _, g, T => (g, T)
  | d + 1, r, g, T => lay8 p b s c d (r + 1) (if g < noz (tA T 4 p 0) (tA T 5 p 0) (tF T 3 p 0 64) r then noz (tA T 4 p 0) (tA T 5 p 0) (tF T 3 p 0 64) r else g) (ulp p b s (32 * r + c) (noz (tA T 4 p 0) (tA T 5 p 0) (tF T 3 p 0 64) r) T)
def layC (p b s : Nat) : Nat → Nat → Int32 → TT → Int32 × TT
  | 0, _, g, T => (g, T)
  | d + 1, c, g, T => layC p b s d (c + 1) (lay8 p b s c 8 0 g (dos8 p b s c 8 0 T)).1 (lay8 p b s c 8 0 g (dos8 p b s c 8 0 T)).2
theorem acc_congr {f g : Nat → Int32} : ∀ (d i : Nat) (a : Int32), (∀ j, i ≤ j → j < i + d → f j = g j) → acc f d i a = acc g d i a := by
  intro d
  induction d with
  | zero => intro i a _; rfl
  | succ d ih =>
    intro i a h
    rw [acc, acc, h i (Nat.le_refl _) (by omega)]
    exact ih _ _ (fun j h1 h2 => h j (by omega) (by omega))
section CL3
variable {ad : Nat → Nat → Nat → Nat} {T : TT} {S : HS}
theorem b_ref (h : INV ad T S) {b : Nat} (hb : b < tN T) : ok S (ad 6 b 0) 0 ∧ gR S 3 (ad 6 b 0) = some (ad 7 b 0) ∧ gR S 4 (ad 6 b 0) = some (ad 9 b 0) ∧ gR S 5 (ad 6 b 0) = some (ad 11 b 0) ∧ ok S (ad 11 b 0) 10 ∧ gN S (ad 11 b 0) = 16 ∧ (∀ k, k < 16 → gQ S (ad 11 b 0) k = if k < tS T b then some (ad 12 b k) else none) ∧ ok S (ad 7 b 0) 1 ∧ ok S (ad 9 b 0) 1 := by
  obtain ⟨a1, a2, a3, a4⟩ := h.2.1.2.2.2.2.1 b hb
  exact ⟨h.ok (vk6 hb (by decide) (by decide)), a1, a2, a3, h.ok (vk6 hb (by decide) (by decide)), h.n (vk6 hb (by decide) (by decide)) (by decide), a4, h.ok (vk6 hb (by decide) (by decide)), h.ok (vk6 hb (by decide) (by decide))⟩
theorem sp_hasColumn (h : INV ad T S) {b : Nat} {x : Int32} (hb : b < tN T) {Q : Int32 → HS → Prop} (k0 : ¬ (0 ≤ x ∧ x < tF T 6 b 0 0) → Q 0 S) (k1 : 0 ≤ x ∧ x < tF T 6 b 0 0 → Q 1 S) : wX0_hasColumn (ad 6 b 0) x S Q := by
  unfold wX0_hasColumn
  rw [h.I (vk6 hb (by decide) (by decide))]
  exact ⟨fun z => k0 (fun q => absurd z (Int32.not_lt.mpr q.1)), fun z => ⟨(b_ref h hb).1, fun z1 => k0 (fun q => absurd z1 (Int32.not_le.mpr q.2)), fun z1 => k1 ⟨Int32.not_lt.mp z, Int32.not_le.mp z1⟩⟩⟩
theorem sp_stripOf (h : INV ad T S) {b : Nat} {x : Int32} (hb : b < tN T) {Q : Option Nat → HS → Prop} (k0 : (¬ ∃ s, s < tS T b ∧ x = nI s) → Q none S) (k1 : ∀ s, s < tS T b → x = nI s → Q (some (ad 12 b s)) S) : wX0_stripOf (ad 6 b 0) x S Q := by
  obtain ⟨h1, -, -, h4, h5, h6, h7, -⟩ := b_ref h hb
  have hs : tS T b ≤ 16 := h.2.1.2.2.2.2.2.2.2.2.2 b hb
  refine ⟨fun z => k0 (fun ⟨s, q, e⟩ => absurd (e ▸ z) (nI_pos (by omega))), fun z0 => ⟨h1, fun o ho => ⟨_, ho.trans h4, h5, ⟨fun z => k0 (fun ⟨s, q, e⟩ => ?_), fun z1 => ⟨h1, fun o2 ho2 => ⟨_, ho2.trans h4, h5, ?_, fun o3 ho3 => ?_⟩⟩⟩⟩⟩⟩
  · rw [h6, e] at z
    exact absurd z (nI_ge (by omega) (by decide))
  · rw [h6] at z1 ⊢
    obtain ⟨j, hj, rfl⟩ := nI_of z0
    exact vp_in_nI (by
      rcases Nat.lt_or_ge j 16 with q | q
      · exact q
      · exact absurd (nI_le q hj) z1) (by decide)
  · rw [h6] at z1
    obtain ⟨j, hj, rfl⟩ := nI_of z0
    have hj16 : j < 16 := by
      rcases Nat.lt_or_ge j 16 with q | q
      · exact q
      · exact absurd (nI_le q hj) z1
    rw [nI_clamp hj, h7 j hj16] at ho3
    by_cases q : j < tS T b
    · rw [if_pos q] at ho3
      rw [ho3]
      exact k1 j q rfl
    · rw [if_neg q] at ho3
      rw [ho3]
      refine k0 (fun ⟨s, q2, e⟩ => ?_)
      have := (nI_eq hj (by omega)).mp e
      omega
theorem sp_share (h : INV ad T S) {b s r c : Nat} (hv : vk T 12 b s) (hr : r < 8) (hc : c < 32) {Q : Int32 → HS → Prop} (k : Q (cshare T b s (tA T 8 b 0 (32 * r + c)) (nI c)) S) : wX0_share (ad 6 b 0) (some (ad 12 b s)) (nI r) (nI c) S Q := by
  obtain ⟨hb, hs⟩ := vk12e hv (by decide) (by decide)
  obtain ⟨h1, h2, h3, h4, h5, h6, h7, h8, h9⟩ := b_ref h hb
  exact ⟨h1, fun o ho => ⟨_, ho.trans h2, h8, sp_at h (Or.inl rfl) (vk6 hb (by decide) (by decide)) hr hc ⟨_, rfl, h.ok hv, sp_shareOf h hv k⟩⟩⟩
theorem sp_layDot (h : INV ad T S) {b s r c : Nat} {x : Int32} (hv : vk T 12 b s) (hr : r < 8) (hc : c < 32) {Q : HS → Prop} (k : ∀ S', INV ad (ulay T b s (32 * r + c) x) S' → Q S') : wX0_layDot (ad 6 b 0) (some (ad 12 b s)) (nI r) (nI c) x S Q := by
  obtain ⟨hb, hs⟩ := vk12e hv (by decide) (by decide)
  have h101 : gR S 101 (ad 12 b s) = some (ad 13 b s) := h.2.1.2.2.2.2.2.2.1 b s hb hs
  have v13 : vk T 13 b s := vk12 hb hs (by decide) (by decide)
  have v9 : vk T 9 b 0 := vk6 hb (by decide) (by decide)
  have v6 : vk T 6 b 0 := vk6 hb (by decide) (by decide)
  refine ⟨_, rfl, h.ok hv, fun o1 e1 => ⟨_, e1.trans h101, h.ok v13, sp_replace h (Or.inr (Or.inr rfl)) v13 hr hc (fun S1 h1 => ?_)⟩⟩
  obtain ⟨a1, a2, a3, a4, a5, a6, a7, a8, a9⟩ := b_ref h1 (b := b) hb
  refine ⟨a1, fun o2 e2 => ⟨a1, fun o3 e3 => ⟨_, e3.trans a3, a9, sp_at h1 (Or.inr (Or.inl rfl)) v9 hr hc ⟨_, e2.trans a3, a9, sp_replace h1 (Or.inr (Or.inl rfl)) v9 hr hc (fun S3 h3 => ?_)⟩⟩⟩⟩
  refine ⟨h3.ok v6, h3.ok v6, fun S4 e4 => k _ ?_⟩
  rw [h3.I v6] at e4
  have h4 := inv_sIe h3 v6 e4
  have e : tA (uA T 14 b s (32 * r + c) x) 10 b 0 (32 * r + c) = tA T 10 b 0 (32 * r + c) := by simp [tA_uA]
  unfold ulay
  rw [show tA (uA T (13 + 1) b s (32 * r + c) x) (9 + 1) b 0 (32 * r + c) = tA T 10 b 0 (32 * r + c) from e] at h4
  exact h4
theorem sp_inkAt (h : INV ad T S) {b r c : Nat} (hb : b < tN T) (hr : r < 8) (hc : c < 32) {Q : Int32 → HS → Prop} (k : Q (cink T b (32 * r + c)) S) : wX0_inkAt (ad 6 b 0) (nI r) (nI c) S Q := by
  obtain ⟨h1, h2, h3, h4, h5, h6, h7, h8, h9⟩ := b_ref h hb
  refine ⟨h1, fun o ho => ⟨_, ho.trans h3, h9, sp_at h (Or.inr (Or.inl rfl)) (vk6 hb (by decide) (by decide)) hr hc ⟨h1, ?_⟩⟩⟩
  rw [h.I (vk6 hb (by decide) (by decide))]
  exact k
theorem sp_errorAt (h : INV ad T S) {b r c : Nat} (hb : b < tN T) (hr : r < 8) (hc : c < 32) {Q : Int32 → HS → Prop} (k : Q (cerr T b (32 * r + c)) S) : wX0_errorAt (ad 6 b 0) (nI r) (nI c) S Q := by
  obtain ⟨h1, h2, h3, h4, h5, h6, h7, h8, h9⟩ := b_ref h hb
  exact ⟨h1, sp_inkAt h hb hr hc ⟨h1, fun o ho => ⟨_, ho.trans h2, h8, sp_at h (Or.inl rfl) (vk6 hb (by decide) (by decide)) hr hc k⟩⟩⟩
theorem lp_lev {b r e : Nat} {x : Int32} (hr : r < 8) (he : e ≤ 32) {K : Int32 → Int32 → HS → Prop} : ∀ (d i : Nat) (a m : Int32) (T : TT) (S : HS), INV ad T S → b < tN T → i + d = e → m = nI i → (∀ S', INV ad (ulev b r x d i T) S' → K (acc (fun c => if tA T 8 b 0 (32 * r + c) = x then 0 else 1) d i a) (nI e) S') → wX0_setLevels_L6 (ad 6 b 0) (nI r) (nI e) x (d + 1) a m S K := by
  intro d
  induction d with
  | zero =>
    intro i a m T S h hb hi hm k
    subst hm
    obtain rfl : i = e := by omega
    exact ⟨fun _ => k _ h, fun z => absurd (nI_le (Nat.le_refl i) (by omega)) z⟩
  | succ d ih =>
    intro i a m T S h hb hi hm k
    subst hm
    obtain ⟨h1, h2, h3, h4, h5, h6, h7, h8, h9⟩ := b_ref h hb
    refine ⟨fun z => absurd z (nI_ge (by omega) (by omega)), fun _ => ⟨h1, fun o ho => ⟨_, ho.trans h2, h8, sp_replace h (Or.inl rfl) (vk6 hb (by decide) (by decide)) hr (by omega) (fun S1 h1 => ?_)⟩⟩⟩
    have cg : ∀ a', acc (fun c => if tA (uA T 8 b 0 (32 * r + i) x) 8 b 0 (32 * r + c) = x then 0 else 1) d (i + 1) a' = acc (fun c => if tA T 8 b 0 (32 * r + c) = x then 0 else 1) d (i + 1) a' := fun a' =>
      acc_congr d (i + 1) a' (fun j hj1 hj2 => by
        rw [tA_uA, if_neg (show ¬ ((8 : Nat) = 8 ∧ b = b ∧ (0 : Nat) = 0 ∧ 32 * r + j = 32 * r + i) from fun q => by omega)])
    refine ⟨fun e1 => ih (i + 1) a _ _ S1 h1 hb (by omega) (nI_1 i) (fun S' h' => ?_), fun e1 => ih (i + 1) (a + 1) _ _ S1 h1 hb (by omega) (nI_1 i) (fun S' h' => ?_)⟩
    · have k2 := k S' h'
      rw [acc, if_pos e1, Int32.add_zero] at k2
      rw [cg]; exact k2
    · have k2 := k S' h'
      rw [acc, if_neg e1] at k2
      rw [cg]; exact k2
theorem lp_fw (h : INV ad T S) {b : Nat} {x : Int32} (hb : b < tN T) {Q : Option Nat → HS → Prop} {K : Int32 → HS → Prop} : ∀ (d i : Nat) (m : Int32), i + d = 16 → m = nI i → (fwn (fun k => decide (k < tS T b ∧ tF T 12 b k 102 = x)) d i = none → K (nI 16) S) → (∀ k, fwn (fun k => decide (k < tS T b ∧ tF T 12 b k 102 = x)) d i = some k → Q (some (ad 12 b k)) S) → wX0_firstWaitingFor_L2 (ad 6 b 0) x Q (d + 1) m S K := by
  obtain ⟨h1, -, -, h4, h5, h6, h7, -⟩ := b_ref h hb
  intro d
  induction d with
  | zero =>
    intro i m hi hm k0 k1
    subst hm
    obtain rfl : i = 16 := by omega
    exact ⟨h1, fun o ho => ⟨_, ho.trans h4, h5, ⟨fun _ => k0 rfl, fun z => absurd (by rw [h6]; exact nI_le (Nat.le_refl 16) (by decide)) z⟩⟩⟩
  | succ d ih =>
    intro i m hi hm k0 k1
    subst hm
    refine ⟨h1, fun o ho => ⟨_, ho.trans h4, h5, ⟨fun z => absurd z (by rw [h6]; exact nI_ge (by omega) (by decide)), fun _ => ⟨h1, fun o2 ho2 => ⟨_, ho2.trans h4, h5, by rw [h6]; exact vp_in_nI (by omega) (by decide), fun o3 ho3 => ?_⟩⟩⟩⟩⟩
    rw [nI_clamp (by omega), h7 i (by omega)] at ho3
    by_cases q : i < tS T b
    · rw [if_pos q] at ho3
      subst ho3
      refine ⟨fun e => (by cases e), fun q3 e3 => ?_⟩
      cases e3
      have v : vk T 12 b i := vk12 hb q (by decide) (by decide)
      refine ⟨h.ok v, ?_⟩
      rw [h.I v]
      refine ⟨fun e => ih (i + 1) _ (by omega) (nI_1 i) (fun z => k0 ?_) (fun j z => k1 j ?_), fun e => k1 i ?_⟩
      · rw [fwn, if_neg (fun y => e (of_decide_eq_true y).2)]; exact z
      · rw [fwn, if_neg (fun y => e (of_decide_eq_true y).2)]; exact z
      · rw [fwn, if_pos (decide_eq_true ⟨q, e⟩)]
    · rw [if_neg q] at ho3
      subst ho3
      refine ⟨fun _ => ih (i + 1) _ (by omega) (nI_1 i) (fun z => k0 ?_) (fun j z => k1 j ?_), fun q3 e3 => (by cases e3)⟩
      · rw [fwn, if_neg (fun y => q (of_decide_eq_true y).1)]; exact z
      · rw [fwn, if_neg (fun y => q (of_decide_eq_true y).1)]; exact z
theorem sp_fw (h : INV ad T S) {b : Nat} {x : Int32} (hb : b < tN T) {Q : Option Nat → HS → Prop} (k0 : fwn (fun k => decide (k < tS T b ∧ tF T 12 b k 102 = x)) 16 0 = none → Q none S) (k1 : ∀ k, fwn (fun k => decide (k < tS T b ∧ tF T 12 b k 102 = x)) 16 0 = some k → Q (some (ad 12 b k)) S) : wX0_firstWaitingFor (ad 6 b 0) x S Q :=
  ⟨17, lp_fw h hb 16 0 0 rfl nI_0.symm k0 k1⟩
end CL3
