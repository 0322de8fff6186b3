/-! Calls to a printer: setGain, match, block, clean, patch -/
theorem RR_P {T : TT} {M : MM} (h : RR T M) {T' : TT} {M' : MM} (eF : ∀ kd i j c, ¬ (kd = 3 ∧ j = 0 ∧ (c = 64 ∨ c = 65 ∨ c = 68)) → tF T' kd i j c = tF T kd i j c) (eA : ∀ kd i j n, kd ≠ 4 → kd ≠ 5 → tA T' kd i j n = tA T kd i j n) (eT : T'.2.2 = T.2.2) (eM1 : M'.1 160 = M.1 160 ∧ M'.1 161 = M.1 161) (eM : ∀ j n, j ≠ 12 → j ≠ 13 → j ≠ 14 → j ≠ 15 → j ≠ 18 → M'.2 j n = M.2 j n) (hp : RRp T' M') : RR T' M' := by
  obtain ⟨h0, hs, hd, hl, hk, -, hq, hw, ho, hn⟩ := h
  obtain ⟨e1, e2, e3, e4⟩ := tN_e eT
  have s : Sm T M T' M' := ⟨e1, e2, fun b c _ => eF _ _ _ _ (fun y => absurd y.1 (by decide)), fun b k c _ _ => eF _ _ _ _ (fun y => absurd y.1 (by decide)), fun j n a1 a2 => eM _ _ (by omega) (by omega) (by omega) (by omega) (by omega)⟩
  have e5 : ∀ b n, mlaid M' (256 * b + n) = mlaid M (256 * b + n) := fun b n => by
    unfold mlaid
    rw [eM 8 _ (by decide) (by decide) (by decide) (by decide) (by decide), eM 8 _ (by decide) (by decide) (by decide) (by decide) (by decide)]
  refine ⟨?_, RRs_e s hs, fun b hb => ?_, fun b k r c hb hk' hr hc => ?_, fun b k hb hk' => ?_, hp, fun p hp' => ?_, fun p hp' => ?_, fun n a1 a2 => ?_, fun b h1 h2 => ?_⟩
  · unfold RR0
    rw [eF 0 0 0 130 (fun y => absurd y.1 (by decide)), eF 0 0 0 131 (fun y => absurd y.1 (by decide)), e1, eM1.1, eM1.2]
    exact h0
  · rw [e1] at hb
    obtain ⟨d1, d2⟩ := hd b hb
    rw [eF 6 b 0 7 (fun y => absurd y.1 (by decide)), eM 11 _ (by decide) (by decide) (by decide) (by decide) (by decide)]
    refine ⟨d1, fun n hn' => ?_⟩
    rw [eA 8 _ _ _ (by decide) (by decide), eA 10 _ _ _ (by decide) (by decide), eM 7 _ (by decide) (by decide) (by decide) (by decide) (by decide), e5]
    exact d2 n hn'
  · rw [e1] at hb
    rw [e2] at hk'
    rw [eA 14 _ _ _ (by decide) (by decide), eM 8 _ (by decide) (by decide) (by decide) (by decide) (by decide)]
    exact hl b k r c hb hk' hr ((inr_e s b k c).mp hc)
  · rw [e1] at hb
    rw [e2] at hk'
    rw [eF 12 b k 102 (fun y => absurd y.1 (by decide)), eF 12 b k 103 (fun y => absurd y.1 (by decide)), eF 12 b k 104 (fun y => absurd y.1 (by decide)), e3, eM 9 _ (by decide) (by decide) (by decide) (by decide) (by decide), eM 10 _ (by decide) (by decide) (by decide) (by decide) (by decide)]
    exact hk b k hb hk'
  · rw [eF 3 p 0 72 (fun y => by omega), eF 3 p 0 73 (fun y => by omega), e1, e2, e3, e4, eM 16 _ (by decide) (by decide) (by decide) (by decide) (by decide), eM 17 _ (by decide) (by decide) (by decide) (by decide) (by decide)]
    exact hq p hp'
  · rw [eF 3 p 0 69 (fun y => by omega), hw p hp']
    refine acc_congr _ _ _ (fun j _ _ => ?_)
    rw [eM 9 _ (by decide) (by decide) (by decide) (by decide) (by decide)]
  · rw [e1, e2] at a2
    rw [eM 9 _ (by decide) (by decide) (by decide) (by decide) (by decide), eM 10 _ (by decide) (by decide) (by decide) (by decide) (by decide)]
    exact ho n a1 a2
  · rw [e1] at h1
    obtain ⟨m1, m2⟩ := hn b h1 h2
    rw [eM 11 _ (by decide) (by decide) (by decide) (by decide) (by decide)]
    refine ⟨m1, fun n hn' => ?_⟩
    rw [eM 7 _ (by decide) (by decide) (by decide) (by decide) (by decide), eM 8 _ (by decide) (by decide) (by decide) (by decide) (by decide), eM 8 _ (by decide) (by decide) (by decide) (by decide) (by decide)]
    exact m2 n hn'
theorem uF_n {T : TT} {p z : Nat} {v : Int32} (hz : z = 64 ∨ z = 65 ∨ z = 68) : ∀ kd i j c, ¬ (kd = 3 ∧ j = 0 ∧ (c = 64 ∨ c = 65 ∨ c = 68)) → tF (uF T 3 p 0 z v) kd i j c = tF T kd i j c := by
  intro kd i j c h
  rw [tF_uF, if_neg]
  rintro ⟨y1, y2, y3, y4⟩
  exact h ⟨y1, y3, by rw [y4]; exact hz⟩
theorem gM_uF {T : TT} {p z : Nat} {v : Int32} : gM (uF T 3 p 0 z v) = gM T := rfl
theorem RRt_uF {T : TT} (h : RRt T) {p z : Nat} {v : Int32} (hz : z ≠ 73) : RRt (uF T 3 p 0 z v) := by
  intro p' hp' hne
  rw [tF_uF, if_neg (fun y => hz y.2.2.2.symm)]
  exact h p' hp' hne
theorem RRt_e {T T' : TT} (h : RRt T) (e1 : T'.1 = T.1) (e2 : T'.2.2 = T.2.2) : RRt T' := by
  intro p' hp' hne
  rw [(tN_e e2).2.2.1] at hne
  show ¬ T'.1 3 p' 0 73 = 0
  rw [e1]
  exact h p' hp' hne
theorem mA_n {M : MM} {j n : Nat} {v : Int32} {j' n' : Nat} (h : j' ≠ j) : (mA M j n v).2 j' n' = M.2 j' n' := by
  rw [mA_2, if_neg (fun y => h y.1)]
theorem RR_gain {T : TT} {M : MM} (h : RR T M) {p g : Nat} (g1 : 50 ≤ g) (g2 : g ≤ 200) : RR (uF T 3 p 0 64 (nI g)) (mA M 12 p (nI g)) := by
  refine RR_P h (uF_n (Or.inl rfl)) (fun _ _ _ _ _ _ => rfl) rfl ⟨rfl, rfl⟩ (fun j n a _ _ _ _ => mA_n a) (fun p' hp' => ?_)
  obtain ⟨a1, a2, a3, a4⟩ := h.2.2.2.2.2.1 p' hp'
  rw [tF_uF, tF_uF, tF_uF, mA_2, mA_n (j' := 13) (by decide), mA_n (j' := 15) (by decide), if_neg (show ¬ ((3 : Nat) = 3 ∧ p' = p ∧ (0 : Nat) = 0 ∧ (65 : Nat) = 64) from fun y => absurd y.2.2.2 (by decide)), if_neg (show ¬ ((3 : Nat) = 3 ∧ p' = p ∧ (0 : Nat) = 0 ∧ (68 : Nat) = 64) from fun y => absurd y.2.2.2 (by decide))]
  refine ⟨?_, a2, fun n hn => by rw [mA_n (by decide)]; exact a3 n hn, a4⟩
  by_cases z : p' = p
  · rw [if_pos ⟨rfl, z, rfl, rfl⟩, if_pos ⟨rfl, z⟩]
    exact ⟨g, g1, g2, rfl, rfl⟩
  · rw [if_neg (fun y => z y.2.1), if_neg (fun y => z y.2)]
    exact a1
theorem RR_corr {T : TT} {M : MM} (h : RR T M) {p : Nat} {v : Int32} : RR (uF T 3 p 0 65 v) (mA M 13 p v) := by
  refine RR_P h (uF_n (Or.inr (Or.inl rfl))) (fun _ _ _ _ _ _ => rfl) rfl ⟨rfl, rfl⟩ (fun j n _ a _ _ _ => mA_n a) (fun p' hp' => ?_)
  obtain ⟨a1, a2, a3, a4⟩ := h.2.2.2.2.2.1 p' hp'
  rw [tF_uF, tF_uF, tF_uF, mA_n (j' := 12) (by decide), mA_n (j' := 15) (by decide), mA_2, if_neg (show ¬ ((3 : Nat) = 3 ∧ p' = p ∧ (0 : Nat) = 0 ∧ (64 : Nat) = 65) from fun y => absurd y.2.2.2 (by decide)), if_neg (show ¬ ((3 : Nat) = 3 ∧ p' = p ∧ (0 : Nat) = 0 ∧ (68 : Nat) = 65) from fun y => absurd y.2.2.2 (by decide))]
  refine ⟨a1, ?_, fun n hn => by rw [mA_n (by decide)]; exact a3 n hn, a4⟩
  by_cases z : p' = p
  · rw [if_pos ⟨rfl, z, rfl, rfl⟩, if_pos ⟨rfl, z⟩]
  · rw [if_neg (fun y => z y.2.1), if_neg (fun y => z y.2)]
    exact a2
theorem RR_usd {T : TT} {M : MM} (h : RR T M) {p : Nat} {v : Int32} (hp : p < 3) : RR (uF T 3 p 0 68 (tF T 3 p 0 68 + v)) (mA M 15 p (M.2 15 p + v)) := by
  refine RR_P h (uF_n (Or.inr (Or.inr rfl))) (fun _ _ _ _ _ _ => rfl) rfl ⟨rfl, rfl⟩ (fun j n _ _ _ a _ => mA_n a) (fun p' hp' => ?_)
  obtain ⟨a1, a2, a3, a4⟩ := h.2.2.2.2.2.1 p' hp'
  rw [tF_uF, tF_uF, tF_uF, mA_n (j' := 12) (by decide), mA_n (j' := 13) (by decide), mA_2, if_neg (show ¬ ((3 : Nat) = 3 ∧ p' = p ∧ (0 : Nat) = 0 ∧ (64 : Nat) = 68) from fun y => absurd y.2.2.2 (by decide)), if_neg (show ¬ ((3 : Nat) = 3 ∧ p' = p ∧ (0 : Nat) = 0 ∧ (65 : Nat) = 68) from fun y => absurd y.2.2.2 (by decide))]
  refine ⟨a1, a2, fun n hn => by rw [mA_n (by decide)]; exact a3 n hn, ?_⟩
  by_cases z : p' = p
  · rw [if_pos ⟨rfl, z, rfl, rfl⟩, if_pos ⟨rfl, z⟩, (h.2.2.2.2.2.1 p hp).2.2.2]
  · rw [if_neg (fun y => z y.2.1), if_neg (fun y => z y.2)]
    exact a4
theorem RR_blk {T : TT} {M : MM} (h : RR T M) {p r : Nat} {v : Int32} (hr : r < 8) : RR (uA T 4 p 0 r v) (mA M 14 (8 * p + r) v) := by
  refine RR_P h (fun _ _ _ _ _ => rfl) (fun kd i j n a _ => by rw [tA_uA, if_neg (fun y => a y.1)]) rfl ⟨rfl, rfl⟩ (fun j n _ _ a _ _ => mA_n a) (fun p' hp' => ?_)
  obtain ⟨a1, a2, a3, a4⟩ := h.2.2.2.2.2.1 p' hp'
  rw [mA_n (j' := 12) (by decide), mA_n (j' := 13) (by decide), mA_n (j' := 15) (by decide)]
  refine ⟨a1, a2, fun n hn => ?_, a4⟩
  rw [tA_uA, mA_2]
  by_cases z : p' = p ∧ n = r
  · obtain ⟨rfl, rfl⟩ := z
    rw [if_pos ⟨rfl, rfl, rfl, rfl⟩, if_pos ⟨rfl, rfl⟩]
  · rw [if_neg (fun y => z ⟨y.2.1, y.2.2.2⟩), if_neg (fun y => z (by omega))]
    exact a3 n hn
def mz (p : Nat) : Nat → Nat → MM → MM
  | 0, _, M => M
  | d + 1, n, M => mz p d (n + 1) (mA M 14 (8 * p + n) 0)
theorem lock_z {p : Nat} : ∀ (d n : Nat) (T : TT) (M : MM), RR T M → n + d = 8 → RR (uz 4 p 0 d n T) (mz p d n M) := by
  intro d
  induction d with
  | zero => intro n T M h _; exact h
  | succ d ih => intro n T M h hn; exact ih (n + 1) _ _ (RR_blk h (by omega)) (by omega)
theorem uz_k {p : Nat} : ∀ (d n : Nat) (T : TT), (uz 4 p 0 d n T).2.2 = T.2.2 ∧ (uz 4 p 0 d n T).1 = T.1 ∧ gM (uz 4 p 0 d n T) = gM T := by
  intro d
  induction d with
  | zero => intros; exact ⟨rfl, rfl, rfl⟩
  | succ d ih => intro n T; obtain ⟨a1, a2, a3⟩ := ih (n + 1) (uA T 4 p 0 n 0); exact ⟨a1, a2, a3⟩
theorem mz_1 {p : Nat} : ∀ (d n : Nat) (M : MM), (mz p d n M).1 = M.1 ∧ ∀ k, (mz p d n M).2 15 k = M.2 15 k := by
  intro d
  induction d with
  | zero => intros; exact ⟨rfl, fun _ => rfl⟩
  | succ d ih => intro n M; obtain ⟨a1, a2⟩ := ih (n + 1) (mA M 14 (8 * p + n) 0); exact ⟨a1, fun k => (a2 k).trans (mA_n (by decide))⟩
def ud (p : Nat) (v : Int32) : Nat → Nat → TT → TT
  | 0, _, T => T
  | d + 1, r, T => ud p v d (r + 1) (uA T 5 p 0 r (if (15 : Int32) < v * tF T 3 p 0 65 / 100 then 15 else v * tF T 3 p 0 65 / 100))
def md (p : Nat) (v : Int32) : Nat → Nat → MM → MM
  | 0, _, M => M
  | d + 1, r, M => md p v d (r + 1) (mw M p r v)
theorem lock_d {p : Nat} {v : Int32} (hp3 : p < 3) : ∀ (d r : Nat) (T : TT) (M : MM), RR T M → r + d = 8 → (∀ r', r' < r → tA T 5 p 0 r' = M.2 18 r') → RR (ud p v d r T) (md p v d r M) ∧ ∀ r', r' < 8 → tA (ud p v d r T) 5 p 0 r' = (md p v d r M).2 18 r' := by
  intro d
  induction d with
  | zero =>
    intro r T M h hr hd
    obtain rfl : r = 8 := by omega
    exact ⟨h, hd⟩
  | succ d ih =>
    intro r T M h hr hd
    rw [ud, md, (h.2.2.2.2.2.1 p hp3).2.1]
    refine ih (r + 1) _ _ (RR_dose h) (by omega) (fun r' hr' => ?_)
    unfold mw
    rw [tA_uA, mA_2]
    by_cases z : r' = r
    · rw [if_pos (show (5 : Nat) = 5 ∧ p = p ∧ (0 : Nat) = 0 ∧ r' = r from ⟨rfl, rfl, rfl, z⟩), if_pos (show (18 : Nat) = 18 ∧ r' = r from ⟨rfl, z⟩)]
    · rw [if_neg (show ¬ ((5 : Nat) = 5 ∧ p = p ∧ (0 : Nat) = 0 ∧ r' = r) from fun y => z y.2.2.2), if_neg (show ¬ ((18 : Nat) = 18 ∧ r' = r) from fun y => z y.2)]
      exact hd r' (by omega)
theorem ud_k {p : Nat} {v : Int32} : ∀ (d r : Nat) (T : TT), (ud p v d r T).2.2 = T.2.2 ∧ (ud p v d r T).1 = T.1 ∧ gM (ud p v d r T) = gM T ∧ tA (ud p v d r T) 4 = tA T 4 := by
  intro d
  induction d with
  | zero => intros; exact ⟨rfl, rfl, rfl, rfl⟩
  | succ d ih => intro r T; obtain ⟨a1, a2, a3, a4⟩ := ih (r + 1) (uA T 5 p 0 r (if (15 : Int32) < v * tF T 3 p 0 65 / 100 then 15 else v * tF T 3 p 0 65 / 100)); exact ⟨a1, a2, a3, a4⟩
theorem md_1 {p : Nat} {v : Int32} : ∀ (d r : Nat) (M : MM), (md p v d r M).1 = M.1 ∧ (∀ k, (md p v d r M).2 12 k = M.2 12 k) ∧ ∀ k, (md p v d r M).2 14 k = M.2 14 k := by
  intro d
  induction d with
  | zero => intros; exact ⟨rfl, fun _ => rfl, fun _ => rfl⟩
  | succ d ih =>
    intro r M
    obtain ⟨a1, a2, a3⟩ := ih (r + 1) (mw M p r v)
    exact ⟨a1, fun k => (a2 k).trans (mA_n (by decide)), fun k => (a3 k).trans (mA_n (by decide))⟩
section PS
variable {ad : Nat → Nat → Nat → Nat} {T : TT} {M : MM} {S : HS}
theorem lp_mz {p : Nat} {c3 : Int32} (hp : p < 3) {K : Int32 → HS → Prop} : ∀ (d n : Nat) (m : Int32) (M : MM) (S : HS), INV ad (TM T M) S → n + d = 8 → m = nI n → (∀ S', INV ad (TM T (mz p d n M)) S' → K (nI 8) S') → wX5_clean_L46 (ad 15 0 0) (nI p) c3 (d + 1) m S K := by
  intro d
  induction d with
  | zero =>
    intro n m M S h hn hm k
    subst hm
    obtain rfl : n = 8 := by omega
    exact ⟨fun _ => k S h, fun z => absurd (nI_le (Nat.le_refl 8) (by decide)) z⟩
  | succ d ih =>
    intro n m M S h hn hm k
    subst hm
    have hx : 8 * p + n < ml 14 := by show _ < 24; omega
    exact ⟨fun z => absurd z (lle (k := 8) (by omega) (by decide)), fun _ => ⟨m_ok h, rd 14 h ix8 hx (fun S4 e4 => ih (n + 1) _ _ S4 (ms 14 h ix8 hx e4) (by omega) (nI_1 n) k)⟩⟩
theorem lp_md {p : Nat} {v c2 : Int32} (hp : p < 3) {K : Int32 → HS → Prop} : ∀ (d r : Nat) (m : Int32) (M : MM) (S : HS), INV ad (TM T M) S → r + d = 8 → m = nI r → (∀ S', INV ad (TM T (md p v d r M)) S' → K (nI 8) S') → wX5_patch_L57 (ad 15 0 0) (nI p) c2 v (d + 1) m S K := by
  intro d
  induction d with
  | zero =>
    intro n m M S h hn hm k
    subst hm
    obtain rfl : n = 8 := by omega
    exact ⟨fun _ => k S h, fun z => absurd (nI_le (Nat.le_refl 8) (by decide)) z⟩
  | succ d ih =>
    intro n m M S h hn hm k
    subst hm
    exact ⟨fun z => absurd z (lle (k := 8) (by omega) (by decide)), fun _ => ⟨m_ok h, sm_wants h hp (by omega) (fun S4 h4 => ih (n + 1) _ _ S4 h4 (by omega) (nI_1 n) k)⟩⟩
theorem lp_ud {p : Nat} {v c2 : Int32} (hp : p < 3) {K : Int32 → HS → Prop} : ∀ (d r : Nat) (m : Int32) (T : TT) (S : HS), INV ad T S → r + d = 8 → m = nI r → (∀ S', INV ad (ud p v d r T) S' → K (nI 8) S') → wX4_patch_L52 c2 v (ad 3 p 0) (d + 1) m S K := by
  intro d
  induction d with
  | zero =>
    intro n m T S h hn hm k
    subst hm
    obtain rfl : n = 8 := by omega
    exact ⟨fun _ => k S h, fun z => absurd (nI_le (Nat.le_refl 8) (by decide)) z⟩
  | succ d ih =>
    intro n m T S h hn hm k
    subst hm
    exact ⟨fun z => absurd z (lle (k := 8) (by omega) (by decide)), fun _ => ⟨(p_bl h hp).1, sp_setDose h hp (by omega) (fun S4 h4 => ih (n + 1) _ _ S4 h4 (by omega) (nI_1 n) k)⟩⟩
end PS
section PQ
variable {a b c d : Nat} {W : HS → Prop} {S : HS} {x y z u : Int32} {Post : Int32 → HS → Prop}
theorem cs_setGain (hW : ∀ S, LI a b c d S → W S) (h : LI a b c d S) (k : ∀ r1 S7, (ok S7 b 5 ∧ wX5_setGain b x y S7 (fun r2 S8 => TL b c W r1 r2 S8)) → Post r1 S7) : wL_setGain (some a) x y (some c) S Post := by
  obtain ⟨ad, T, hI, hR, ht, rfl, rfl, rfl, rfl⟩ := h
  obtain ⟨hI', hN, v⟩ := LIx hI hR
  refine ⟨_, rfl, (s_ref hI).1, (s_ref hI).1, ?_⟩
  by_cases z : ∃ p, p < 3 ∧ x = nI p
  · obtain ⟨p, hp, rfl⟩ := z
    refine cP_y hI hp ⟨fun z => (by cases z), fun q e => ?_⟩
    cases e
    by_cases zy : (50 : Int32) ≤ y ∧ y ≤ 200
    · obtain ⟨g, g1, g2, rfl⟩ := n_of (lo := 50) (hi := 200) zy (by decide) (by decide)
      refine cI_y zy ⟨fun _ => ⟨(p_bl hI hp).1, (p_bl hI hp).1, fun S1 e1 => ?_⟩, fun z => absurd z w1n⟩
      have h1 := inv_sIe hI (vk3 hp (by decide) (by decide)) e1
      obtain ⟨gg, -, -, gc, gm⟩ := (hR.2.2.2.2.2.1 p hp).1
      rw [hI.I (vk3 hp (by decide) (by decide)), gc]
      refine rtn h1 (fun ad' S3 h3 e0 e15 e17 e18 eJ => k 0 S3 ?_)
      rw [← e15] at hW ⊢
      have h3' : INV ad' (TM (uF T 3 p 0 64 (nI g)) (gM T)) S3 := h3
      refine ⟨m_ok h3', mP_y hp ⟨fun _ => mI_y zy ⟨fun z => absurd z w1n, fun _ => f0 h3' (fun S4 h4 => ⟨m_ok h4, rd 12 h4 rfl hp ⟨m_ok h4, rd 12 h4 rfl hp (fun S5 e5 => ?_)⟩⟩)⟩, fun z => absurd z w1n⟩⟩
      rw [mv 12 h4 rfl hp]
      have h5 := ms 12 h4 rfl hp e5
      exact fin_ok hW e0 e17 e18 eJ (by rw [mF_2, gm]) h5 rfl (RR_gain (M := mF (gM T) 179 0) hR g1 g2) (RRt_uF ht (by decide))
    · refine cI_n zy ⟨fun z => absurd rfl z, fun _ => Or.inr ⟨rfl, k 2 S ?_⟩⟩
      exact ⟨m_ok hI', mP_y hp ⟨fun _ => mI_n zy ⟨fun _ => f1 hI' w2 (fun S4 h4 => fin_th hW rfl rfl rfl w2n h4 hR ht), fun z => absurd rfl z⟩, fun z => absurd z w1n⟩⟩
  · refine cP_n hI z ⟨fun _ => Or.inl ⟨rfl, k 1 S ?_⟩, fun q e => (by cases e)⟩
    exact ⟨m_ok hI', mP_n z ⟨fun z => absurd rfl z, fun _ => f1 hI' w1 (fun S4 h4 => fin_th hW rfl rfl rfl w1n h4 hR ht)⟩⟩
theorem cs_match (hW : ∀ S, LI a b c d S → W S) (h : LI a b c d S) (k : ∀ r1 S7, (ok S7 b 5 ∧ wX5_match b x S7 (fun r2 S8 => TL b c W r1 r2 S8)) → Post r1 S7) : wL_match (some a) x (some c) S Post := by
  obtain ⟨ad, T, hI, hR, ht, rfl, rfl, rfl, rfl⟩ := h
  obtain ⟨hI', hN, v⟩ := LIx hI hR
  refine ⟨_, rfl, (s_ref hI).1, (s_ref hI).1, ?_⟩
  by_cases z : ∃ p, p < 3 ∧ x = nI p
  · obtain ⟨p, hp, rfl⟩ := z
    refine cP_y hI hp ⟨fun z => (by cases z), fun q e => ?_⟩
    cases e
    obtain ⟨gg, g1, g2, gc, gm⟩ := (hR.2.2.2.2.2.1 p hp).1
    refine ⟨(p_bl hI hp).1, sp_correctByGain hI hp (by rw [gc]; exact nI_nle (by omega) (by omega)) (fun S1 h1 => ?_)⟩
    refine rtn h1 (fun ad' S3 h3 e0 e15 e17 e18 eJ => k 0 S3 ?_)
    rw [← e15] at hW ⊢
    have h3' : INV ad' (TM (uF T 3 p 0 65 (ccorr (tF T 3 p 0 64))) (gM T)) S3 := h3
    refine ⟨m_ok h3', mP_y hp ⟨fun z => absurd z w1n, fun _ => f0 h3' (fun S4 h4 => ⟨m_ok h4, fun o1 eo => ⟨m_ok h4, rd 12 h4 rfl hp ⟨m_ok h4, rd 12 h4 rfl hp ?_⟩⟩⟩)⟩⟩
    rw [mv 12 h4 rfl hp, mF_2, gm]
    refine ⟨nI_ne0 (by omega) (by omega), ⟨_, eo.trans (rf 13 h4), rq 13 h4 rfl hp (fun S5 e5 => ?_)⟩⟩
    have h5 := ms 13 h4 rfl hp e5
    refine ⟨m_ok h5, rd 13 h5 rfl hp ?_⟩
    rw [mv 13 h5 rfl hp, mA_2, if_pos ⟨rfl, rfl⟩]
    rw [gc] at h5 eJ
    exact fin_ok hW e0 e17 e18 eJ rfl h5 rfl (RR_corr (M := mF (gM T) 179 0) hR) (RRt_uF ht (by decide))
  · refine cP_n hI z ⟨fun _ => ⟨rfl, k 1 S ?_⟩, fun q e => (by cases e)⟩
    exact ⟨m_ok hI', mP_n z ⟨fun _ => f1 hI' w1 (fun S4 h4 => fin_th hW rfl rfl rfl w1n h4 hR ht), fun z => absurd rfl z⟩⟩
theorem blk_eq {T : TT} {M : MM} (h : RR T M) {p : Nat} (hp : p < 3) : acc (fun r => if tA T 4 p 0 r = 0 then 0 else 1) 8 0 0 = acc (fun r => if M.2 14 (8 * p + r) = 0 then 0 else 1) 8 0 0 :=
  acc_congr 8 0 0 (fun j _ hj => by rw [(h.2.2.2.2.2.1 p hp).2.2.1 j (by omega)])
theorem cs_block (hW : ∀ S, LI a b c d S → W S) (h : LI a b c d S) (k : ∀ r1 S7, (ok S7 b 5 ∧ wX5_block b x y S7 (fun r2 S8 => TL b c W r1 r2 S8)) → Post r1 S7) : wL_block (some a) x y (some c) S Post := by
  obtain ⟨ad, T, hI, hR, ht, rfl, rfl, rfl, rfl⟩ := h
  obtain ⟨hI', hN, v⟩ := LIx hI hR
  refine ⟨_, rfl, (s_ref hI).1, (s_ref hI).1, ?_⟩
  by_cases z : ∃ p, p < 3 ∧ x = nI p
  · obtain ⟨p, hp, rfl⟩ := z
    refine cP_y hI hp ⟨fun z => (by cases z), fun q e => ?_⟩
    cases e
    by_cases zr : ∃ r, r < 8 ∧ y = nI r
    · obtain ⟨r, hr, rfl⟩ := zr
      refine cR_y hr ⟨fun _ => ⟨(p_bl hI hp).1, sp_blockNozzle hI hp hr (fun S1 h1 => ⟨(p_bl h1 hp).1, sp_blockedCount h1 hp ?_⟩)⟩, fun z => absurd z w1n⟩
      refine rtn h1 (fun ad' S3 h3 e0 e15 e17 e18 eJ => k 0 S3 ?_)
      rw [← e15] at hW ⊢
      have h3' : INV ad' (TM (uA T 4 p 0 r 1) (gM T)) S3 := h3
      have hx : 8 * p + r < ml 14 := by show _ < 24; omega
      refine ⟨m_ok h3', mP_y hp ⟨fun z => absurd z w1n, fun _ => mR_y hr ⟨fun z => absurd z w1n, fun _ => f0 h3' (fun S4 h4 => ⟨m_ok h4, rd 14 h4 ix8 hx (fun S5 e5 => ?_)⟩)⟩⟩⟩
      have h5 := ms 14 h4 ix8 hx e5
      have hR' := RR_blk (p := p) (v := 1) (M := mF (gM T) 179 0) hR hr
      exact ⟨m_ok h5, sm_blocked h5 hp (fin_ok hW e0 e17 e18 eJ (by rw [blk_eq hR' hp]) h5 rfl hR' ht)⟩
    · refine cR_n zr ⟨fun z => absurd rfl z, fun _ => ⟨rfl, k 1 S ?_⟩⟩
      exact ⟨m_ok hI', mP_y hp ⟨fun z => absurd z w1n, fun _ => mR_n zr ⟨fun _ => f1 hI' w1 (fun S4 h4 => fin_th hW rfl rfl rfl w1n h4 hR ht), fun z => absurd rfl z⟩⟩⟩
  · refine cP_n hI z ⟨fun _ => ⟨rfl, k 1 S ?_⟩, fun q e => (by cases e)⟩
    exact ⟨m_ok hI', mP_n z ⟨fun _ => f1 hI' w1 (fun S4 h4 => fin_th hW rfl rfl rfl w1n h4 hR ht), fun z => absurd rfl z⟩⟩
theorem cs_clean (hW : ∀ S, LI a b c d S → W S) (h : LI a b c d S) (k : ∀ r1 S7, (ok S7 b 5 ∧ wX5_clean b x S7 (fun r2 S8 => TL b c W r1 r2 S8)) → Post r1 S7) : wL_clean (some a) x (some c) S Post := by
  obtain ⟨ad, T, hI, hR, ht, rfl, rfl, rfl, rfl⟩ := h
  obtain ⟨hI', hN, v⟩ := LIx hI hR
  refine ⟨_, rfl, (s_ref hI).1, (s_ref hI).1, ?_⟩
  by_cases z : ∃ p, p < 3 ∧ x = nI p
  · obtain ⟨p, hp, rfl⟩ := z
    refine cP_y hI hp ⟨fun z => (by cases z), fun q e => ?_⟩
    cases e
    obtain ⟨q1, q2⟩ := hR.2.2.2.2.2.2.1 p hp
    refine ⟨(p_bl hI hp).1, sp_isPrinting hI hp (fun w => ⟨fun _ => ⟨(p_bl hI hp).1, sp_blockedCount hI hp ⟨(p_bl hI hp).1, sp_freeNozzles hI hp (fun S1 h1 => ⟨(p_bl h1 hp).1, (p_bl h1 hp).1, fun S2 e2 => ?_⟩)⟩⟩, fun z => absurd rfl z⟩) (fun q w => ⟨fun z => absurd z w1n, fun _ => Or.inr ⟨rfl, k 2 S ?_⟩⟩)⟩
    · have ez := uz_k (p := p) 8 0 T
      have hL := lock_z (p := p) 8 0 T (mF (gM T) 179 0) hR rfl
      have m1 := mz_1 (p := p) 8 0 (mF (gM T) 179 0)
      obtain ⟨T1, eT1⟩ : ∃ T1, T1 = uz 4 p 0 8 0 T := ⟨_, rfl⟩
      obtain ⟨M1, eM1⟩ : ∃ M1, M1 = mz p 8 0 (mF (gM T) 179 0) := ⟨_, rfl⟩
      rw [← eT1] at h1 ez hL
      rw [← eM1] at hL m1
      rw [h1.I (vk3 hp (by decide) (by decide))] at e2
      have h2 := inv_sIe h1 (vk3 hp (by decide) (by decide)) e2
      refine rtn h2 (fun ad' S3 h3 e0 e15 e17 e18 eJ => k 0 S3 ?_)
      rw [← e15] at hW ⊢
      rw [gM_uF, ez.2.2] at h3
      refine ⟨m_ok h3, mP_y hp ⟨fun _ => ⟨m_ok h3, rd 16 h3 rfl hp ?_⟩, fun z => absurd z w1n⟩⟩
      rw [mv 16 h3 rfl hp, (q1 w).2]
      refine ⟨fun z => absurd rfl z, fun _ => f0 h3 (fun S4 h4 => ⟨m_ok h4, sm_blocked h4 hp ⟨9, lp_mz hp 8 0 0 _ S4 h4 rfl nI_0.symm (fun S5 h5 => ?_)⟩⟩)⟩
      rw [← eM1] at h5
      refine ⟨m_ok h5, rd 15 h5 rfl hp (rq 15 h5 rfl hp (fun S6 e6 => ?_))⟩
      rw [mv 15 h5 rfl hp] at e6
      have h6 := ms 15 h5 rfl hp e6
      have hR0 := RR_usd (v := 20) hL hp
      have h179 : (mA M1 15 p (M1.2 15 p + 20)).1 179 = 0 := by
        rw [mA_1, m1.1]; rfl
      exact fin_ok hW e0 e17 e18 eJ (by rw [blk_eq hR hp]; rfl) h6 h179 hR0 (RRt_uF (RRt_e ht ez.2.1 ez.1) (by decide))
    · obtain ⟨b1, b2, b3, b4, -⟩ := q2 q w
      have n16 : tS T q.1 ≤ 16 := (hR.2.1 q.1 b2).1.2.2.2.2.2.2.2.2.2.1
      have h5 := v.1
      refine ⟨m_ok hI', mP_y hp ⟨fun _ => ⟨m_ok hI', rd 16 hI' rfl hp ?_⟩, fun z => absurd z w1n⟩⟩
      rw [mv 16 hI' rfl hp, b4]
      exact ⟨fun _ => f1 hI' w2 (fun S4 h4 => fin_th hW rfl rfl rfl w2n h4 hR ht), fun z => absurd z (one_pos (by omega))⟩
  · refine cP_n hI z ⟨fun _ => Or.inl ⟨rfl, k 1 S ?_⟩, fun q e => (by cases e)⟩
    exact ⟨m_ok hI', mP_n z ⟨fun z => absurd rfl z, fun _ => f1 hI' w1 (fun S4 h4 => fin_th hW rfl rfl rfl w1n h4 hR ht)⟩⟩
theorem cs_patch (hW : ∀ S, LI a b c d S → W S) (h : LI a b c d S) (k : ∀ r1 S7, (ok S7 b 5 ∧ wX5_patch b x y z S7 (fun r2 S8 => TL b c W r1 r2 S8)) → Post r1 S7) : wL_patch (some a) x y z (some c) S Post := by
  obtain ⟨ad, T, hI, hR, ht, rfl, rfl, rfl, rfl⟩ := h
  obtain ⟨hI', hN, v⟩ := LIx hI hR
  refine ⟨_, rfl, (s_ref hI).1, (s_ref hI).1, ?_⟩
  by_cases zp : ∃ p, p < 3 ∧ x = nI p
  · obtain ⟨p, hp, rfl⟩ := zp
    refine cP_y hI hp ⟨fun z => (by cases z), fun q e => ?_⟩
    cases e
    by_cases zr : ∃ r, r < 8 ∧ y = nI r
    · obtain ⟨r, hr, rfl⟩ := zr
      refine cR_y hr ⟨fun _ => ?_, fun z => absurd z w1n⟩
      by_cases zl : (0 : Int32) ≤ z ∧ z ≤ 15
      · have ez := ud_k (p := p) (v := z) 8 0 T
        have hL := lock_d (v := z) hp 8 0 T (mF (gM T) 179 0) hR rfl (fun r' h => absurd h (by omega))
        have m1 := md_1 (p := p) (v := z) 8 0 (mF (gM T) 179 0)
        obtain ⟨T1, eT1⟩ : ∃ T1, T1 = ud p z 8 0 T := ⟨_, rfl⟩
        obtain ⟨M1, eM1⟩ : ∃ M1, M1 = md p z 8 0 (mF (gM T) 179 0) := ⟨_, rfl⟩
        rw [← eT1] at ez hL
        rw [← eM1] at hL m1
        refine cI_y zl ⟨fun _ => ⟨9, lp_ud hp 8 0 0 T S hI rfl nI_0.symm (fun S1 h1 => ?_)⟩, fun z => absurd z w1n⟩
        rw [← eT1] at h1
        refine ⟨(p_bl h1 hp).1, sp_laidInRow h1 hp hr ?_⟩
        refine rtn h1 (fun ad' S3 h3 e0 e15 e17 e18 eJ => k 0 S3 ?_)
        rw [← e15] at hW ⊢
        rw [ez.2.2.1] at h3
        refine ⟨m_ok h3, mP_y hp ⟨fun z => absurd z w1n, fun _ => mR_y hr ⟨fun z => absurd z w1n, fun _ => ⟨fun _ => mI_y zl ⟨fun z => absurd z w1n, fun _ => f0 h3 (fun S4 h4 => ⟨9, lp_md hp 8 0 0 _ S4 h4 rfl nI_0.symm (fun S5 h5 => ?_)⟩)⟩, fun z => absurd z w1n⟩⟩⟩⟩
        rw [← eM1] at h5
        refine ⟨m_ok h5, sm_nozzle h5 hp hr ?_⟩
        obtain ⟨hR1, hd⟩ := hL
        have h179 : M1.1 179 = 0 := by rw [m1.1]; rfl
        obtain ⟨⟨gn, -, -, g1, g2⟩, -, a3, -⟩ := hR1.2.2.2.2.2.1 p hp
        have en : noz (tA T1 4 p 0) (tA T1 5 p 0) (tF T1 3 p 0 64) r = mnoz M1 p r := by
          unfold mnoz
          rw [g1, g2]
          exact noz_congr a3 hd hr
        exact fin_ok hW e0 e17 e18 eJ (by rw [en]) h5 h179 hR1 (RRt_e ht ez.2.1 ez.1)
      · refine cI_n zl ⟨fun z => absurd rfl z, fun _ => Or.inr ⟨rfl, k 2 S ?_⟩⟩
        exact ⟨m_ok hI', mP_y hp ⟨fun z => absurd z w1n, fun _ => mR_y hr ⟨fun z => absurd z w1n, fun _ => ⟨fun _ => mI_n zl ⟨fun _ => f1 hI' w2 (fun S4 h4 => fin_th hW rfl rfl rfl w2n h4 hR ht), fun z => absurd rfl z⟩, fun z => absurd z w1n⟩⟩⟩⟩
    · refine cR_n zr ⟨fun z => absurd rfl z, fun _ => Or.inl ⟨rfl, k 1 S ?_⟩⟩
      exact ⟨m_ok hI', mP_y hp ⟨fun z => absurd z w1n, fun _ => mR_n zr ⟨fun _ => ⟨fun z => absurd rfl z, fun _ => f1 hI' w1 (fun S4 h4 => fin_th hW rfl rfl rfl w1n h4 hR ht)⟩, fun z => absurd rfl z⟩⟩⟩
  · refine cP_n hI zp ⟨fun _ => Or.inl ⟨rfl, k 1 S ?_⟩, fun q e => (by cases e)⟩
    exact ⟨m_ok hI', mP_n zp ⟨fun _ => ⟨fun z => absurd rfl z, fun _ => f1 hI' w1 (fun S4 h4 => fin_th hW rfl rfl rfl w1n h4 hR ht)⟩, fun z => absurd rfl z⟩⟩
end PQ
