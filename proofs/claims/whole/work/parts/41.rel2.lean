theorem noz_congr {bl bl' ds ds' : Nat → Int32} {g : Int32} {r : Nat} (hb : ∀ n, n < 8 → bl n = bl' n) (hd : ∀ n, n < 8 → ds n = ds' n) (hr : r < 8) : noz bl ds g r = noz bl' ds' g r := by
  have e1 : (if r + 1 < 8 ∧ ¬ bl (r + 1) = 0 then ds (r + 1) else 0) = (if r + 1 < 8 ∧ ¬ bl' (r + 1) = 0 then ds' (r + 1) else 0) := by
    by_cases z : r + 1 < 8
    · rw [hb _ z, hd _ z]
    · rw [if_neg (fun y => z y.1), if_neg (fun y => z y.1)]
  have e2 : (if 0 < r ∧ ¬ bl (r - 1) = 0 then ds (r - 1) else 0) = (if 0 < r ∧ ¬ bl' (r - 1) = 0 then ds' (r - 1) else 0) := by
    rw [hb _ (show r - 1 < 8 by omega), hd _ (show r - 1 < 8 by omega)]
  unfold noz
  rw [e1, e2, hb r hr, hd r hr]
/-- one column of a strip -/
theorem lock_dos {p b k c C W O : Nat} (hp3 : p < 3) (hc0 : c < 32) : ∀ (d r : Nat) (T : TT) (M : MM), RR T M → b < tN T → k < tS T b → gC M b = C → gW M b = W → gO M b = O → r + d = 8 → (∀ r', r' < r → tA T 5 p 0 r' = M.2 18 r') → RR (dos8 p b k c d r T) (mdos C W O (tS T b) p b k c d r M) ∧ ∀ r', r' < 8 → tA (dos8 p b k c d r T) 5 p 0 r' = (mdos C W O (tS T b) p b k c d r M).2 18 r' := by
  intro d
  induction d with
  | zero =>
    intro r T M h hb hk eC eW eO hr hd
    obtain rfl : r = 8 := by omega
    exact ⟨h, hd⟩
  | succ d ih =>
    intro r T M h hb hk eC eW eO hr hd
    have hs := h.2.1 b hb
    rw [eC, eW, eO] at hs
    have hlv := ((h.2.2.1 b hb).2 (32 * r + c) (by omega)).1
    have hco := (h.2.2.2.2.2.1 p hp3).2.1
    have ev : cshare T b k (tA T 8 b 0 (32 * r + c)) (nI c) = shr C W O (tS T b) k (M.2 7 (256 * b + 32 * r + c)) c := by
      rw [hlv, share_eq hs hk hc0, Nat.add_assoc]
    rw [dos8, mdos, ev, hco]
    have h' := RR_dose (p := p) (r := r) (x := if (15 : Int32) < shr C W O (tS T b) k (M.2 7 (256 * b + 32 * r + c)) c * M.2 13 p / 100 then 15 else shr C W O (tS T b) k (M.2 7 (256 * b + 32 * r + c)) c * M.2 13 p / 100) (y := if (15 : Int32) < shr C W O (tS T b) k (M.2 7 (256 * b + 32 * r + c)) c * M.2 13 p / 100 then 15 else shr C W O (tS T b) k (M.2 7 (256 * b + 32 * r + c)) c * M.2 13 p / 100) h
    refine ih (r + 1) _ _ h' hb hk eC eW eO (by omega) (fun r' hr' => ?_)
    unfold mw
    rw [tA_uA, mA_2]
    by_cases z : r' = r
    · rw [if_pos (show (5 : Nat) = 5 ∧ p = p ∧ (0 : Nat) = 0 ∧ r' = r from ⟨rfl, rfl, rfl, z⟩), if_pos (show (18 : Nat) = 18 ∧ r' = r from ⟨rfl, z⟩)]
    · rw [if_neg (show ¬ ((5 : Nat) = 5 ∧ p = p ∧ (0 : Nat) = 0 ∧ r' = r) from fun y => z y.2.2.2), if_neg (show ¬ ((18 : Nat) = 18 ∧ r' = r) from fun y => z y.2)]
      exact hd r' (by omega)
theorem ulp_k {p b k n : Nat} {x : Int32} {T : TT} : tN (ulp p b k n x T) = tN T ∧ tS (ulp p b k n x T) = tS T ∧ (∀ i, tA (ulp p b k n x T) 5 p 0 i = tA T 5 p 0 i) := ⟨rfl, rfl, fun i => rfl⟩
theorem lock_lay {p b k c : Nat} (hp3 : p < 3) : ∀ (d r : Nat) (g : Int32) (T : TT) (M : MM), RR T M → b < tN T → k < tS T b → inr M b k c → r + d = 8 → (∀ r', r' < 8 → tA T 5 p 0 r' = M.2 18 r') → (lay8 p b k c d r g T).1 = (mlay p b k c d r g M).1 ∧ RR (lay8 p b k c d r g T).2 (mlay p b k c d r g M).2 := by
  intro d
  induction d with
  | zero => intro r g T M h hb hk hc hr hd; exact ⟨rfl, h⟩
  | succ d ih =>
    intro r g T M h hb hk hc hr hd
    obtain ⟨⟨gn, -, -, g1, g2⟩, -, a3, -⟩ := h.2.2.2.2.2.1 p hp3
    have ev : noz (tA T 4 p 0) (tA T 5 p 0) (tF T 3 p 0 64) r = mnoz M p r := by
      unfold mnoz
      rw [g1, g2]
      exact noz_congr a3 hd (by omega)
    rw [lay8, mlay, ev]
    have h' := RR_dot (x := mnoz M p r) (r := r) h hp3 hb hk (by omega) hc
    have s : ∀ j n, 2 ≤ j → j ≤ 4 → (mlp p b (1280 * (k % 2) + (256 * b + 32 * r + c)) (mnoz M p r) M).2 j n = M.2 j n := fun j n a1 a2 => mlp_e (by omega) (by omega) (by omega)
    refine ih (r + 1) _ _ _ h' hb hk ?_ (by omega) (fun r' hr' => ?_)
    · unfold inr gC gW gO
      rw [s 2 b (by decide) (by decide), s 3 b (by decide) (by decide), s 4 b (by decide) (by decide)]
      exact hc
    · rw [mlp_e (by decide) (by decide) (by decide)]
      exact hd r' hr'
theorem lock_col {p b k C W O : Nat} (hp3 : p < 3) : ∀ (d c : Nat) (g : Int32) (T : TT) (M : MM), RR T M → b < tN T → k < tS T b → gC M b = C → gW M b = W → gO M b = O → k * (W - O) ≤ c → c + d ≤ eN C W O k → (layC p b k d c g T).1 = (mcol C W O (tS T b) p b k d c g M).1 ∧ RR (layC p b k d c g T).2 (mcol C W O (tS T b) p b k d c g M).2 := by
  intro d
  induction d with
  | zero => intro c g T M h hb hk eC eW eO h1 h2; exact ⟨rfl, h⟩
  | succ d ih =>
    intro c g T M h hb hk eC eW eO h1 h2
    have hs := h.2.1 b hb
    rw [eC, eW, eO] at hs
    have fe := geo_fe hs.1 hk
    obtain ⟨d1, d2⟩ := lock_dos (c := c) hp3 (by omega) 8 0 T M h hb hk eC eW eO rfl (fun r' z => absurd z (by omega))
    have kN : tN (dos8 p b k c 8 0 T) = tN T ∧ tS (dos8 p b k c 8 0 T) = tS T := by
      have e : ∀ (d r : Nat) (T : TT), tN (dos8 p b k c d r T) = tN T ∧ tS (dos8 p b k c d r T) = tS T := by
        intro d
        induction d with
        | zero => intros; exact ⟨rfl, rfl⟩
        | succ d ih => intro r T; rw [dos8]; exact ih _ _
      exact e 8 0 T
    have e2 : ∀ j n, j ≠ 18 → (mdos C W O (tS T b) p b k c 8 0 M).2 j n = M.2 j n := fun j n hj => mdos_e hj 8 0 M
    have ir : inr (mdos C W O (tS T b) p b k c 8 0 M) b k c := by
      unfold inr gC gW gO
      rw [e2 2 b (by decide), e2 3 b (by decide), e2 4 b (by decide)]
      show k * (gW M b - gO M b) ≤ c ∧ c < eN (gC M b) (gW M b) (gO M b) k
      rw [eC, eW, eO]
      exact ⟨h1, by omega⟩
    obtain ⟨l1, l2⟩ := lock_lay (c := c) hp3 8 0 g _ _ d1 (by rw [kN.1]; exact hb) (by rw [kN.2]; exact hk) ir rfl d2
    have kL : tN (lay8 p b k c 8 0 g (dos8 p b k c 8 0 T)).2 = tN T ∧ tS (lay8 p b k c 8 0 g (dos8 p b k c 8 0 T)).2 = tS T := by
      have e : ∀ (d r : Nat) (g : Int32) (T : TT), tN (lay8 p b k c d r g T).2 = tN T ∧ tS (lay8 p b k c d r g T).2 = tS T := by
        intro d
        induction d with
        | zero => intros; exact ⟨rfl, rfl⟩
        | succ d ih => intro r g T; rw [lay8]; exact ih _ _ _
      obtain ⟨a1, a2⟩ := e 8 0 g (dos8 p b k c 8 0 T)
      exact ⟨a1.trans kN.1, a2.trans kN.2⟩
    have e3 : ∀ j n, 2 ≤ j → j ≤ 4 → (mlay p b k c 8 0 g (mdos C W O (tS T b) p b k c 8 0 M)).2.2 j n = M.2 j n := fun j n a1 a2 => (mlay_e (by omega) (by omega) (by omega) 8 0 g _).trans (e2 j n (by omega))
    rw [layC, mcol, l1]
    have := ih (c + 1) (mlay p b k c 8 0 g (mdos C W O (tS T b) p b k c 8 0 M)).1 _ _ l2 (by rw [kL.1]; exact hb) (by rw [kL.2]; exact hk) (by unfold gC; rw [e3 2 b (by decide) (by decide)]; exact eC) (by unfold gW; rw [e3 3 b (by decide) (by decide)]; exact eW) (by unfold gO; rw [e3 4 b (by decide) (by decide)]; exact eO) (by omega) (by omega)
    rw [kL.2] at this
    exact this
theorem RR_tick {T : TT} {M : MM} {p t : Nat} {q : Nat × Nat} (h : RR T M) (hp3 : p < 3) (hP : tP T p = some q) (e : tF T 3 p 0 73 = nI t) (ht : 1 ≤ t) (ht2 : t ≤ 12) : RR (utick T p) (mtic M p) ∧ tF (utick T p) 3 p 0 73 = nI (t - 1) ∧ (mtic M p).2 17 p = nI (t - 1) := by
  obtain ⟨h0, hs, hd, hl, hk, hp, hq, hw, ho, hn⟩ := h
  have s : Sm T M (utick T p) (mtic M p) := ⟨rfl, rfl, fun b c hc => by unfold utick; rw [tF_uF, if_neg (fun y => absurd y.1 (by decide))], fun b k c h1 h2 => by unfold utick; rw [tF_uF, if_neg (fun y => absurd y.1 (by decide))], fun j n a1 a2 => by unfold mtic; rw [mA_2, if_neg (fun y => by omega)]⟩
  obtain ⟨b1, b2, b3, b4, b5, t', c1, c2, c3⟩ := (hq p hp3).2 q hP
  have x1 : tF (utick T p) 3 p 0 73 = nI (t - 1) := by
    unfold utick
    rw [tF_uF, if_pos ⟨rfl, rfl, rfl, rfl⟩, e]
    exact pk_sub (b := 1) ht
  have x2 : (mtic M p).2 17 p = nI (t - 1) := by
    unfold mtic
    rw [mA_2, if_pos ⟨rfl, rfl⟩, c3, ← c2, e]
    exact pk_sub (b := 1) ht
  have y1 : ∀ p' z, ¬ (p' = p ∧ z = 73) → tF (utick T p) 3 p' 0 z = tF T 3 p' 0 z := by
    intro p' z hz
    unfold utick
    rw [tF_uF, if_neg (fun y => hz ⟨y.2.1, y.2.2.2⟩)]
  have y2 : ∀ j n, ¬ (j = 17 ∧ n = p) → (mtic M p).2 j n = M.2 j n := by
    intro j n hz
    unfold mtic
    rw [mA_2, if_neg hz]
  refine ⟨⟨h0, RRs_e s hs, fun b hb => ?_, fun b k r c hb hk hr hc => ?_, fun b k hb hk' => hk b k hb hk', fun p' hp' => ?_, fun p' hp' => ?_, fun p' hp' => ?_, ho, hn⟩, x1, x2⟩
  · exact hd b hb
  · exact hl b k r c hb hk hr ((inr_e s b k c).mp hc)
  · rw [y1 p' 64 (fun y => absurd y.2 (by decide)), y1 p' 65 (fun y => absurd y.2 (by decide)), y1 p' 68 (fun y => absurd y.2 (by decide))]
    exact hp p' hp'
  · rw [y1 p' 72 (fun y => absurd y.2 (by decide)), y2 16 p' (fun y => absurd y.1 (by decide))]
    refine ⟨(hq p' hp').1, fun q' hq' => ?_⟩
    obtain ⟨b1', b2', b3', b4', b5', t'', c1', c2', c3'⟩ := (hq p' hp').2 q' hq'
    by_cases z : p' = p
    · subst z
      refine ⟨b1', b2', b3', b4', b5', t - 1, ?_, x1, x2⟩
      omega
    · refine ⟨b1', b2', b3', b4', b5', t'', c1', ?_, ?_⟩
      · rw [y1 p' 73 (fun y => z y.1)]; exact c2'
      · rw [y2 17 p' (fun y => z y.2)]; exact c3'
  · rw [y1 p' 69 (fun y => absurd y.2 (by decide))]
    exact hw p' hp'
theorem RR_fin {T : TT} {M : MM} {p b k : Nat} {v : Int32} (h : RR T M) (hp3 : p < 3) (hP : tP T p = some (b, k)) : RR (uP (uB (uF (uF T 12 b k 104 v) 12 b k 103 0) p none) p none) (mA (mA M 10 (16 * b + k) v) 16 p (-1)) := by
  obtain ⟨h0, hs, hd, hl, hk, hp, hq, hw, ho, hn⟩ := h
  obtain ⟨b1, b2, b3, b4, b5, t', c1, c2, c3⟩ := (hq p hp3).2 (b, k) hP
  have b2 : b < tN T := b2
  have b3 : k < tS T b := b3
  have n16 : ∀ b', b' < tN T → tS T b' ≤ 16 := fun b' hb' => (hs b' hb').1.2.2.2.2.2.2.2.2.2.1
  have y1 : ∀ kd i j z, ¬ (kd = 12 ∧ i = b ∧ j = k ∧ (z = 103 ∨ z = 104)) → tF (uP (uB (uF (uF T 12 b k 104 v) 12 b k 103 0) p none) p none) kd i j z = tF T kd i j z := by
    intro kd i j z hz
    rw [tF_uP, tF_uB, tF_uF, if_neg (fun y => hz ⟨y.1, y.2.1, y.2.2.1, Or.inl y.2.2.2⟩), tF_uF, if_neg (fun y => hz ⟨y.1, y.2.1, y.2.2.1, Or.inr y.2.2.2⟩)]
  have y2 : ∀ j n, ¬ (j = 16 ∧ n = p) → ¬ (j = 10 ∧ n = 16 * b + k) → (mA (mA M 10 (16 * b + k) v) 16 p (-1)).2 j n = M.2 j n := by
    intro j n h1 h2
    rw [mA_2, if_neg h1, mA_2, if_neg h2]
  have yP : ∀ p', tP (uP (uB (uF (uF T 12 b k 104 v) 12 b k 103 0) p none) p none) p' = if p' = p then none else tP T p' := fun p' => rfl
  have yB : ∀ p', tB (uP (uB (uF (uF T 12 b k 104 v) 12 b k 103 0) p none) p none) p' = if p' = p then none else tB T p' := fun p' => rfl
  have s : Sm T M (uP (uB (uF (uF T 12 b k 104 v) 12 b k 103 0) p none) p none) (mA (mA M 10 (16 * b + k) v) 16 p (-1)) := ⟨rfl, rfl, fun b' c hc => y1 _ _ _ _ (fun y => absurd y.1 (by decide)), fun b' k' c h1 h2 => y1 _ _ _ _ (fun y => by omega), fun j n a1 a2 => y2 _ _ (fun y => by omega) (fun y => by omega)⟩
  refine ⟨?_, RRs_e s hs, fun b' hb' => ?_, fun b' k' r c hb' hk' hr hc => ?_, fun b' k' hb' hk' => ?_, fun p' hp' => ?_, fun p' hp' => ?_, fun p' hp' => ?_, fun n a1 a2 => ?_, fun b' h1 h2 => ?_⟩
  · unfold RR0
    rw [y1 0 0 0 130 (fun y => absurd y.1 (by decide)), y1 0 0 0 131 (fun y => absurd y.1 (by decide))]
    exact h0
  · rw [y1 6 b' 0 7 (fun y => absurd y.1 (by decide)), y2 11 b' (fun y => absurd y.1 (by decide)) (fun y => absurd y.1 (by decide))]
    exact hd b' hb'
  · exact hl b' k' r c hb' hk' hr ((inr_e s b' k' c).mp hc)
  · have hb2 : b' < tN T := hb'
    have hk2 : k' < tS T b' := hk'
    have l1 := n16 b' hb2
    have l2 := n16 b b2
    obtain ⟨a1, a2, a3, a4⟩ := hk b' k' hb2 hk2
    rw [y1 12 b' k' 102 (fun y => by omega), y2 9 (16 * b' + k') (fun y => absurd y.1 (by decide)) (fun y => absurd y.1 (by decide)), tF_uP, tF_uB, tF_uF, if_neg (show ¬ ((12 : Nat) = 12 ∧ b' = b ∧ k' = k ∧ (104 : Nat) = 103) from fun y => absurd y.2.2.2 (by decide)), tF_uF, mA_2, if_neg (show ¬ ((10 : Nat) = 16 ∧ 16 * b' + k' = p) from fun y => absurd y.1 (by decide)), mA_2, tF_uP, tF_uB, tF_uF]
    by_cases z : b' = b ∧ k' = k
    · obtain ⟨rfl, rfl⟩ := z
      rw [if_pos ⟨rfl, rfl, rfl, rfl⟩, if_pos ⟨rfl, rfl⟩, if_pos ⟨rfl, rfl, rfl, rfl⟩]
      refine ⟨a1, rfl, ⟨fun _ p' hp' e => ?_, fun _ => rfl⟩, fun p' hp' e => ?_⟩
      · rw [yP] at e
        by_cases z2 : p' = p
        · rw [if_pos z2] at e; cases e
        · rw [if_neg z2] at e
          exact z2 ((a4 p hp3 hP).2 p' hp' e)
      · rw [yP] at e
        by_cases z2 : p' = p
        · rw [if_pos z2] at e; cases e
        · rw [if_neg z2] at e
          exact absurd ((a4 p hp3 hP).2 p' hp' e) z2
    · rw [if_neg (show ¬ ((12 : Nat) = 12 ∧ b' = b ∧ k' = k ∧ (104 : Nat) = 104) from fun y => z ⟨y.2.1, y.2.2.1⟩), if_neg (show ¬ ((10 : Nat) = 10 ∧ 16 * b' + k' = 16 * b + k) from fun y => z (by omega)), if_neg (show ¬ ((12 : Nat) = 12 ∧ b' = b ∧ k' = k ∧ (103 : Nat) = 103) from fun y => z ⟨y.2.1, y.2.2.1⟩), tF_uF, if_neg (show ¬ ((12 : Nat) = 12 ∧ b' = b ∧ k' = k ∧ (103 : Nat) = 104) from fun y => z ⟨y.2.1, y.2.2.1⟩)]
      have zp : ∀ p', (if p' = p then none else tP T p') = some (b', k') ↔ tP T p' = some (b', k') := by
        intro p'
        by_cases z2 : p' = p
        · rw [if_pos z2, z2, hP]
          exact ⟨fun y => (by cases y), fun y => (by cases y; exact absurd ⟨rfl, rfl⟩ z)⟩
        · rw [if_neg z2]
      refine ⟨a1, a2, ⟨fun e p' hp' y => ?_, fun e => a3.mpr (fun p' hp' y => e p' hp' ?_)⟩, fun p' hp' e => ?_⟩
      · rw [yP, zp] at y
        exact a3.mp e p' hp' y
      · rw [yP, zp]; exact y
      · rw [yP, zp] at e
        refine ⟨(a4 p' hp' e).1, fun p2 hp2 e2 => ?_⟩
        rw [yP, zp] at e2
        exact (a4 p' hp' e).2 p2 hp2 e2
  · rw [y1 3 p' 0 64 (fun y => absurd y.1 (by decide)), y1 3 p' 0 65 (fun y => absurd y.1 (by decide)), y1 3 p' 0 68 (fun y => absurd y.1 (by decide))]
    exact hp p' hp'
  · rw [yP, yB, y1 3 p' 0 72 (fun y => absurd y.1 (by decide)), y1 3 p' 0 73 (fun y => absurd y.1 (by decide)), y2 17 p' (fun y => absurd y.1 (by decide)) (fun y => absurd y.1 (by decide))]
    by_cases z : p' = p
    · rw [if_pos z, if_pos z, mA_2, if_pos ⟨rfl, z⟩]
      exact ⟨fun _ => ⟨rfl, rfl⟩, fun _ y => (by cases y)⟩
    · rw [if_neg z, if_neg z, y2 16 p' (fun y => z y.2) (fun y => absurd y.1 (by decide))]
      exact hq p' hp'
  · rw [y1 3 p' 0 69 (fun y => absurd y.1 (by decide))]
    exact hw p' hp'
  · have l2 := n16 b b2
    have a2' : ¬ (n / 16 < tN T ∧ n % 16 < tS T (n / 16)) := a2
    rw [y2 9 n (fun y => absurd y.1 (by decide)) (fun y => absurd y.1 (by decide)), y2 10 n (fun y => absurd y.1 (by decide))]
    · exact ho n a1 a2'
    · intro y
      have e1 : n / 16 = b := by omega
      have e2 : n % 16 = k := by omega
      rw [e1, e2] at a2'
      exact a2' ⟨b2, b3⟩
  · exact hn b' h1 h2
theorem uE_some {T : TT} {p : Nat} {q : Nat × Nat} (w : tP T p = some q) : uE T p = if tF T 3 p 0 73 - 1 ≤ 0 then (1, uend T p q.1 q.2 (tF T 12 q.1 q.2 97).toNatClampNeg (tF T 12 q.1 q.2 98).toNatClampNeg (tF T 0 0 0 131)) else (0, utick T p) := by
  unfold uE
  rw [w]
theorem uE_none {T : TT} {p : Nat} (w : tP T p = none) : uE T p = (0, T) := by
  unfold uE
  rw [w]
/-- a printer at a tick's end -/
theorem lock_E {T : TT} {M : MM} {p : Nat} (h : RR T M) (ht : RRt T) (hp3 : p < 3) : (uE T p).1 = (mE M (tS T) p).1 ∧ RR (uE T p).2 (mE M (tS T) p).2 ∧ RRt (uE T p).2 ∧ tS (uE T p).2 = tS T := by
  obtain ⟨q1, q2⟩ := h.2.2.2.2.2.2.1 p hp3
  unfold mE
  cases w : tP T p with
  | none =>
    obtain ⟨-, e⟩ := q1 w
    rw [if_pos e, uE_none w]
    exact ⟨rfl, h, ht, rfl⟩
  | some q =>
    obtain ⟨b, k⟩ := q
    obtain ⟨b1, b2, b3, b4, b5, t, c1, c2, c3⟩ := q2 (b, k) w
    have b2 : b < tN T := b2
    have b3 : k < tS T b := b3
    have b4 : M.2 16 p = nI (16 * b + k) := b4
    have hs := h.2.1 b b2
    have n16 : tS T b ≤ 16 := hs.1.2.2.2.2.2.2.2.2.2.1
    have n5 := h.1.2.2.2
    have t0 : 1 ≤ t := by
      rcases Nat.eq_zero_or_pos t with y | y
      · exact absurd (by rw [c2, y]; rfl) (ht p hp3 (by rw [w]; exact fun z => (by cases z)))
      · exact y
    have e16 : ¬ M.2 16 p = -1 := by rw [b4]; exact one_pos (by omega)
    obtain ⟨r1, r2, r3⟩ := RR_tick h hp3 w c2 t0 c1
    have fe := geo_fe hs.1 b3
    have tick_t : ∀ p', ¬ p' = p → tF (utick T p) 3 p' 0 73 = tF T 3 p' 0 73 := by
      intro p' z
      unfold utick
      rw [tF_uF, if_neg (fun y => z y.2.1)]
    rw [if_neg e16, uE_some w]
    rw [c2, c3, show nI t - 1 = nI (t - 1) from pk_sub (b := 1) t0]
    by_cases z : t - 1 = 0
    · have hl : nI (t - 1) ≤ 0 := by rw [z]; decide
      have he : nI (t - 1) = 0 := by rw [z]; rfl
      rw [if_pos hl, if_pos he]
      have f1 : (tF T 12 b k 97).toNatClampNeg = k * (gW M b - gO M b) := by rw [(hs.2.2.2.2.2 k b3).2.1]; exact nI_clamp (by omega)
      have f2 : (tF T 12 b k 98).toNatClampNeg = eN (gC M b) (gW M b) (gO M b) k := by rw [(hs.2.2.2.2.2 k b3).2.2.1]; exact nI_clamp (by omega)
      have f3 : (M.2 16 p).toNatClampNeg = 16 * b + k := by rw [b4]; exact nI_clamp (by omega)
      have f4 : (16 * b + k) / 16 = b := by omega
      have f5 : (16 * b + k) % 16 = k := by omega
      have hP2 : tP (utick T p) p = some (b, k) := w
      obtain ⟨l1, l2⟩ := lock_col (p := p) (b := b) (k := k) hp3 (eN (gC M b) (gW M b) (gO M b) k - k * (gW M b - gO M b)) (k * (gW M b - gO M b)) 0 (utick T p) (mtic M p) r1 b2 b3 rfl rfl rfl (Nat.le_refl _) (by show _ ≤ eN (gC M b) (gW M b) (gO M b) k; omega)
      have key : RR (uend T p b k (k * (gW M b - gO M b)) (eN (gC M b) (gW M b) (gO M b) k) (tF T 0 0 0 131)) (mfin (mtic M p) p (16 * b + k) (tS T b)) := by
        have l2' : RR (layC p b k (eN (gC M b) (gW M b) (gO M b) k - k * (gW M b - gO M b)) (k * (gW M b - gO M b)) 0 (utick T p)).2 (mfc (mtic M p) p (16 * b + k) (tS T b)).2 := by
          unfold mfc
          rw [f4, f5]
          exact l2
        have l1' : (layC p b k (eN (gC M b) (gW M b) (gO M b) k - k * (gW M b - gO M b)) (k * (gW M b - gO M b)) 0 (utick T p)).1 = (mfc (mtic M p) p (16 * b + k) (tS T b)).1 := by
          unfold mfc
          rw [f4, f5]
          exact l1
        have hP3 : tP (layC p b k (eN (gC M b) (gW M b) (gO M b) k - k * (gW M b - gO M b)) (k * (gW M b - gO M b)) 0 (utick T p)).2 p = some (b, k) := by
          rw [(tN_e (layC_BP _ _ _ _)).2.2.1]; exact w
        have e131 : (mfc (mtic M p) p (16 * b + k) (tS T b)).2.1 160 = tF T 0 0 0 131 := by
          unfold mfc
          rw [mcol_1]
          exact h.1.2.2.1.symm
        unfold uend mfin
        rw [l1', e131]
        exact RR_fin l2' hp3 hP3
      obtain ⟨e1, e2, e3, e4⟩ := tN_e (uend_BP (T := T) (p := p) (b := b) (s := k) (f := k * (gW M b - gO M b)) (e := eN (gC M b) (gW M b) (gO M b) k) (now := tF T 0 0 0 131))
      show (1 : Int32) = 1 ∧ RR (uend T p b k (tF T 12 b k 97).toNatClampNeg (tF T 12 b k 98).toNatClampNeg (tF T 0 0 0 131)) (mfin (mtic M p) p (M.2 16 p).toNatClampNeg (tS T ((M.2 16 p).toNatClampNeg / 16))) ∧ RRt (uend T p b k (tF T 12 b k 97).toNatClampNeg (tF T 12 b k 98).toNatClampNeg (tF T 0 0 0 131)) ∧ tS (uend T p b k (tF T 12 b k 97).toNatClampNeg (tF T 12 b k 98).toNatClampNeg (tF T 0 0 0 131)) = tS T
      rw [f1, f2, f3, f4]
      refine ⟨rfl, key, fun p' hp' hne => ?_, e2⟩
      rw [e3] at hne
      have zp : ¬ p' = p := fun y => hne (by rw [tP_uP, if_pos y])
      rw [tP_uP, if_neg zp] at hne
      have e73 : ∀ (d c : Nat) (g : Int32) (T : TT), tF (layC p b k d c g T).2 3 p' 0 73 = tF T 3 p' 0 73 := by
        have el : ∀ (c d r : Nat) (g : Int32) (T : TT), tF (lay8 p b k c d r g T).2 3 p' 0 73 = tF T 3 p' 0 73 := by
          intro c d
          induction d with
          | zero => intros; rfl
          | succ d ih =>
            intro r g T
            rw [lay8, ih]
            unfold ulp ulay
            rw [tF_uF, if_neg (fun y => absurd y.2.2.2 (by decide)), tF_uF, if_neg (fun y => absurd y.1 (by decide))]
            rfl
        intro d
        induction d with
        | zero => intros; rfl
        | succ d ih => intro c g T; rw [layC, ih, el, dos_F]
      unfold uend
      rw [tF_uP, tF_uB, tF_uF, if_neg (fun y => absurd y.1 (by decide)), tF_uF, if_neg (fun y => absurd y.1 (by decide)), e73, tick_t p' zp]
      exact ht p' hp' hne
    · have hl : ¬ nI (t - 1) ≤ 0 := nI_nle (by omega) (by omega)
      have he : ¬ nI (t - 1) = 0 := nI_ne0 (by omega) (by omega)
      rw [if_neg hl, if_neg he]
      refine ⟨rfl, r1, fun p' hp' hne => ?_, rfl⟩
      by_cases zp : p' = p
      · subst zp
        show ¬ tF (utick T p') 3 p' 0 73 = 0
        rw [r2]
        exact he
      · show ¬ tF (utick T p) 3 p' 0 73 = 0
        rw [tick_t p' zp]
        exact ht p' hp' hne
theorem lock_EL : ∀ (d p : Nat) (a : Int32) (T : TT) (M : MM) (ss : Nat → Nat), RR T M → RRt T → ss = tS T → p + d = 3 → (uEL d p a T).1 = (mEL ss d p a M).1 ∧ RR (uEL d p a T).2 (mEL ss d p a M).2 ∧ RRt (uEL d p a T).2 ∧ tS (uEL d p a T).2 = ss := by
  intro d
  induction d with
  | zero => intro p a T M ss h ht e _; exact ⟨rfl, h, ht, e.symm⟩
  | succ d ih =>
    intro p a T M ss h ht e hp
    subst e
    obtain ⟨a1, a2, a3, a4⟩ := lock_E (p := p) h ht (by omega)
    rw [uEL, mEL, a1]
    exact ih (p + 1) _ _ _ _ a2 a3 a4.symm (by omega)
