/-! begin -/
theorem strips_ex {C W O : Nat} (h1 : 4 ≤ C) (h2 : C ≤ 32) (h3 : 2 ≤ W) (h4 : W ≤ 12) (h5 : 2 * O < W) : ∃ N, 4 ≤ C ∧ C ≤ 32 ∧ 2 ≤ W ∧ W ≤ 12 ∧ 2 * O < W ∧ 1 ≤ N ∧ N ≤ 16 ∧ (∀ k, 0 < k → k < N → (k - 1) * (W - O) + W < C) ∧ C ≤ (N - 1) * (W - O) + W := by
  have key : ∀ m, (∃ N, 1 ≤ N ∧ N ≤ m ∧ (∀ k, 0 < k → k < N → (k - 1) * (W - O) + W < C) ∧ C ≤ (N - 1) * (W - O) + W) ∨ ∀ k, 0 < k → k ≤ m → (k - 1) * (W - O) + W < C := by
    intro m
    induction m with
    | zero => exact Or.inr (fun k a b => by omega)
    | succ m ih =>
      rcases ih with ⟨N, a, b, c, d⟩ | ih
      · exact Or.inl ⟨N, a, by omega, c, d⟩
      · by_cases z : (m + 1 - 1) * (W - O) + W < C
        · refine Or.inr (fun k a b => ?_)
          rcases Nat.eq_or_lt_of_le b with e | e
          · rw [e]; exact z
          · exact ih k a (by omega)
        · exact Or.inl ⟨m + 1, by omega, Nat.le_refl _, fun k a b => ih k a (by omega), by omega⟩
  rcases key 16 with ⟨N, a, b, c, d⟩ | h
  · exact ⟨N, h1, h2, h3, h4, h5, a, b, c, d⟩
  · exfalso
    have := h 16 (by omega) (by omega)
    have : 15 * 2 ≤ 15 * (W - O) := Nat.mul_le_mul_left _ (by omega)
    omega
theorem RR_begin {T T' : TT} {M M' : MM} {C W O N n : Nat} {lim due : Int32} (h : RR T M) (hn : n = tN T) (n5 : n < 5) (g : 4 ≤ C ∧ C ≤ 32 ∧ 2 ≤ W ∧ W ≤ 12 ∧ 2 * O < W ∧ 1 ≤ N ∧ N ≤ 16 ∧ (∀ k, 0 < k → k < N → (k - 1) * (W - O) + W < C) ∧ C ≤ (N - 1) * (W - O) + W)
    (eB : tB T' = tB T) (eP : tP T' = tP T) (eN' : tN T' = n + 1) (eS : ∀ b, tS T' b = if b = n then N else tS T b)
    (oF : ∀ kd i j c, ¬ (i = n ∧ 6 ≤ kd ∧ kd < 15) → ¬ (kd = 0 ∧ c = 130) → tF T' kd i j c = tF T kd i j c) (oA : ∀ kd i j m, ¬ (i = n ∧ 6 ≤ kd ∧ kd < 15) → tA T' kd i j m = tA T kd i j m)
    (e130 : tF T' 0 0 0 130 = nI (n + 1)) (f6 : tF T' 6 n 0 0 = nI C ∧ tF T' 6 n 0 1 = lim ∧ tF T' 6 n 0 2 = due ∧ tF T' 6 n 0 6 = nI N ∧ tF T' 6 n 0 7 = 0) (a8 : ∀ m, tA T' 8 n 0 m = 0) (a10 : ∀ m, tA T' 10 n 0 m = 0)
    (f12 : ∀ k, k < N → (tF T' 12 n k 96 = nI k ∧ tF T' 12 n k 97 = nI (k * (W - O)) ∧ tF T' 12 n k 98 = nI (eN C W O k) ∧ tF T' 12 n k 99 = nI (lefE C W O k) ∧ tF T' 12 n k 100 = nI (rigS C W O k)) ∧ tF T' 12 n k 102 = -1 ∧ tF T' 12 n k 103 = 0 ∧ tF T' 12 n k 104 = -1) (a14 : ∀ k m, k < N → tA T' 14 n k m = 0)
    (m160 : M'.1 160 = M.1 160) (m161 : M'.1 161 = nI (n + 1)) (mN : M'.2 2 n = nI C ∧ M'.2 3 n = nI W ∧ M'.2 4 n = nI O ∧ M'.2 5 n = lim ∧ M'.2 6 n = due) (mO : ∀ j b, ¬ (2 ≤ j ∧ j ≤ 6 ∧ b = n) → M'.2 j b = M.2 j b) : RR T' M' := by
  subst hn
  obtain ⟨h0, hs, hd, hl, hk, hp, hq, hw, ho, hnn⟩ := h
  obtain ⟨g4, g5, g6, g7, g8, g9, g10, g11, g12⟩ := g
  have eSo : ∀ b, b < tN T → tS T' b = tS T b := fun b hb => by rw [eS, if_neg (by omega)]
  have eSn : tS T' (tN T) = N := by rw [eS, if_pos rfl]
  have nC : gC M' (tN T) = C ∧ gW M' (tN T) = W ∧ gO M' (tN T) = O := by
    unfold gC gW gO
    rw [mN.1, mN.2.1, mN.2.2.1]
    exact ⟨nI_clamp (by omega), nI_clamp (by omega), nI_clamp (by omega)⟩
  have oC : ∀ b, b < tN T → gC M' b = gC M b ∧ gW M' b = gW M b ∧ gO M' b = gO M b := fun b hb => by
    unfold gC gW gO
    rw [mO 2 b (by omega), mO 3 b (by omega), mO 4 b (by omega)]
    exact ⟨rfl, rfl, rfl⟩
  have ml' : ∀ n, mlaid M' n = mlaid M n := fun n => by
    unfold mlaid
    rw [mO 8 n (by omega), mO 8 (1280 + n) (by omega)]
  obtain ⟨nn1, nn2⟩ := hnn (tN T) (Nat.le_refl _) n5
  refine ⟨⟨?_, ?_, ?_, ?_⟩, fun b hb => ?_, fun b hb => ?_, fun b k r c hb hk' hr hc => ?_, fun b k hb hk' => ?_, fun p hp' => ?_, fun p hp' => ?_, fun p hp' => ?_, fun m a1 a2 => ?_, fun b h1 h2 => ?_⟩
  · rw [e130, eN']
  · rw [m161, eN']
  · rw [oF 0 0 0 131 (by omega) (by omega), m160]; exact h0.2.2.1
  · omega
  · rcases Nat.lt_or_ge b (tN T) with q | q
    · obtain ⟨o1, o2, o3⟩ := oC b q
      rw [o1, o2, o3]
      obtain ⟨a1, a2, a3, a4, a5, a6⟩ := hs b q
      unfold RRb
      rw [eSo b q]
      refine ⟨GEO_e a1 (mO 2 b (by omega)) (mO 3 b (by omega)) (mO 4 b (by omega)), ?_, ?_, ?_, ?_, fun k hk => ?_⟩
      · rw [oF 6 b 0 0 (by omega) (by omega)]; exact a2
      · rw [oF 6 b 0 1 (by omega) (by omega), mO 5 b (by omega)]; exact a3
      · rw [oF 6 b 0 2 (by omega) (by omega), mO 6 b (by omega)]; exact a4
      · rw [oF 6 b 0 6 (by omega) (by omega)]; exact a5
      · rw [oF 12 b k 96 (by omega) (by omega), oF 12 b k 97 (by omega) (by omega), oF 12 b k 98 (by omega) (by omega), oF 12 b k 99 (by omega) (by omega), oF 12 b k 100 (by omega) (by omega)]
        exact a6 k hk
    · obtain rfl : b = tN T := by omega
      rw [nC.1, nC.2.1, nC.2.2]
      unfold RRb
      rw [eSn]
      exact ⟨⟨mN.1, mN.2.1, mN.2.2.1, g4, g5, g6, g7, g8, g9, g10, g11, g12⟩, f6.1, by rw [f6.2.1, mN.2.2.2.1], by rw [f6.2.2.1, mN.2.2.2.2], f6.2.2.2.1, fun k hk => (f12 k hk).1⟩
  · rcases Nat.lt_or_ge b (tN T) with q | q
    · obtain ⟨d1, d2⟩ := hd b q
      rw [oF 6 b 0 7 (by omega) (by omega), mO 11 b (by omega)]
      refine ⟨d1, fun m hm => ?_⟩
      rw [oA 8 b 0 m (by omega), oA 10 b 0 m (by omega), mO 7 _ (by omega), ml']
      exact d2 m hm
    · obtain rfl : b = tN T := by omega
      rw [f6.2.2.2.2, mO 11 _ (by omega), nn1]
      refine ⟨rfl, fun m hm => ?_⟩
      obtain ⟨n1, n2, n3⟩ := nn2 m hm
      rw [a8, a10, mO 7 _ (by omega), ml', n1]
      unfold mlaid
      rw [n2, n3]
      exact ⟨rfl, by decide⟩
  · rcases Nat.lt_or_ge b (tN T) with q | q
    · rw [eSo b q] at hk'
      obtain ⟨o1, o2, o3⟩ := oC b q
      unfold inr at hc
      rw [o1, o2, o3] at hc
      rw [oA 14 b k _ (by omega), mO 8 _ (by omega)]
      exact hl b k r c q hk' hr hc
    · obtain rfl : b = tN T := by omega
      rw [eSn] at hk'
      unfold inr at hc
      rw [nC.1, nC.2.1, nC.2.2] at hc
      have c32 : c < 32 := by
        have := hc.2
        unfold eN at this
        split at this <;> omega
      rw [a14 k _ hk', mO 8 _ (by omega)]
      obtain ⟨n1, n2, n3⟩ := nn2 (32 * r + c) (by omega)
      rcases Nat.mod_two_eq_zero_or_one k with y | y
      · rw [y, show 1280 * 0 + (256 * tN T + 32 * r + c) = 256 * tN T + (32 * r + c) from by omega, n2]
      · rw [y, show 1280 * 1 + (256 * tN T + 32 * r + c) = 1280 + (256 * tN T + (32 * r + c)) from by omega, n3]
  · rw [eP]
    rcases Nat.lt_or_ge b (tN T) with q | q
    · rw [eSo b q] at hk'
      rw [oF 12 b k 102 (by omega) (by omega), oF 12 b k 103 (by omega) (by omega), oF 12 b k 104 (by omega) (by omega), mO 9 _ (by omega), mO 10 _ (by omega)]
      exact hk b k q hk'
    · obtain rfl : b = tN T := by omega
      rw [eSn] at hk'
      obtain ⟨-, c1, c2, c3⟩ := f12 k hk'
      have none_p : ∀ p, p < 3 → ¬ tP T p = some (tN T, k) := fun p hp' e => by
        have := ((hq p hp').2 _ e).2.1
        exact absurd this (Nat.lt_irrefl _)
      obtain ⟨o1, o2⟩ := ho (16 * tN T + k) (by omega) (by omega)
      rw [c1, c2, c3, mO 9 _ (by omega), mO 10 _ (by omega), o1, o2]
      exact ⟨rfl, rfl, ⟨fun _ => none_p, fun _ => rfl⟩, fun p hp' e => absurd e (none_p p hp')⟩
  · rw [oF 3 p 0 64 (by omega) (by omega), oF 3 p 0 65 (by omega) (by omega), oF 3 p 0 68 (by omega) (by omega), mO 12 _ (by omega), mO 13 _ (by omega), mO 15 _ (by omega)]
    obtain ⟨a1, a2, a3, a4⟩ := hp p hp'
    refine ⟨a1, a2, fun m hm => ?_, a4⟩
    rw [oA 4 p 0 m (by omega), mO 14 _ (by omega)]
    exact a3 m hm
  · obtain ⟨q1, q2⟩ := hq p hp'
    rw [eP, eB, mO 16 _ (by omega), mO 17 _ (by omega), oF 3 p 0 72 (by omega) (by omega), oF 3 p 0 73 (by omega) (by omega), eN']
    refine ⟨q1, fun q e => ?_⟩
    obtain ⟨b1, b2, b3, b4⟩ := q2 q e
    rw [eSo q.1 b2]
    exact ⟨b1, by omega, b3, b4⟩
  · rw [oF 3 p 0 69 (by omega) (by omega), hw p hp']
    exact acc_congr _ _ _ (fun j _ _ => by rw [mO 9 _ (by omega)])
  · rw [mO 9 _ (by omega), mO 10 _ (by omega)]
    refine ho m a1 (fun y => a2 ?_)
    rw [eN', eSo _ y.1]
    exact ⟨by omega, y.2⟩
  · rw [eN'] at h1
    rw [mO 11 _ (by omega)]
    obtain ⟨m1, m2⟩ := hnn b (by omega) h2
    refine ⟨m1, fun m hm => ?_⟩
    rw [mO 7 _ (by omega), mO 8 _ (by omega), mO 8 _ (by omega)]
    exact m2 m hm
def adB (ad : Nat → Nat → Nat → Nat) (n q dl rl dd rd pa : Nat) (sk dk rk : Nat → Nat) : Nat → Nat → Nat → Nat := fun kd i j =>
  if i = n ∧ 6 ≤ kd ∧ kd < 15 then (if kd = 6 then q else if kd = 7 then dl else if kd = 8 then rl else if kd = 9 then dd else if kd = 10 then rd else if kd = 11 then pa else if kd = 12 then sk j else if kd = 13 then dk j else rk j) else ad kd i j
def TB (T : TT) (n N : Nat) (ad' : Nat → Nat → Nat → Nat) (S : HS) : TT :=
  (fun kd i j c => if i = n ∧ 6 ≤ kd ∧ kd < 15 then gI S c (ad' kd i j) else if kd = 0 ∧ c = 130 then nI (n + 1) else tF T kd i j c, fun kd i j m => if i = n ∧ 6 ≤ kd ∧ kd < 15 then gA S (ad' kd i j) m else tA T kd i j m, tB T, tP T, n + 1, fun b => if b = n then N else tS T b)
theorem vk_old {T : TT} {kd i j : Nat} (v : vk T kd i j) : ¬ (i = tN T ∧ 6 ≤ kd ∧ kd < 15) := by
  rintro ⟨a, b, c⟩
  rcases v with ⟨d, -⟩ | ⟨-, d, -⟩ | ⟨-, -, d, -⟩ | ⟨-, -, d, -⟩ | ⟨d, -⟩ | ⟨d, -⟩ | ⟨d, -⟩ <;> omega
theorem vkB {T T' : TT} {N kd i j : Nat} (eN' : tN T' = tN T + 1) (eS : ∀ b, tS T' b = if b = tN T then N else tS T b) (v : vk T' kd i j) : vk T kd i j ∨ (6 ≤ kd ∧ kd < 12 ∧ i = tN T ∧ j = 0) ∨ (12 ≤ kd ∧ kd < 15 ∧ i = tN T ∧ j < N) := by
  rcases v with v | v | ⟨a, b, c, d⟩ | ⟨a, b, c, d⟩ | v | v | v
  · exact Or.inl (Or.inl v)
  · exact Or.inl (Or.inr (Or.inl v))
  · rcases Nat.lt_or_ge i (tN T) with q | q
    · exact Or.inl (Or.inr (Or.inr (Or.inl ⟨a, b, q, d⟩)))
    · exact Or.inr (Or.inl ⟨a, b, by omega, d⟩)
  · rw [eS] at d
    rcases Nat.lt_or_ge i (tN T) with q | q
    · rw [if_neg (by omega)] at d
      exact Or.inl (Or.inr (Or.inr (Or.inr (Or.inl ⟨a, b, q, d⟩))))
    · have e : i = tN T := by omega
      rw [if_pos e] at d
      exact Or.inr (Or.inr ⟨a, b, e, d⟩)
  · exact Or.inl (Or.inr (Or.inr (Or.inr (Or.inr (Or.inl v)))))
  · exact Or.inl (Or.inr (Or.inr (Or.inr (Or.inr (Or.inr (Or.inl v))))))
  · exact Or.inl (Or.inr (Or.inr (Or.inr (Or.inr (Or.inr (Or.inr v))))))
section BG
variable {ad : Nat → Nat → Nat → Nat} {T : TT} {S0 S7 S8 S9 : HS} {t0 tg : Nat → Nat × Nat × Nat} {C W O N q dl rl dd rd pa : Nat} {lim due : Int32} {sk dk rk : Nat → Nat}
theorem asm_begin (h : INV ad T S0) (ht : ∀ kd i j, vk T kd i j → t0 (ad kd i j) = (kd, i, j)) (n5 : tN T < 5) (n16 : N ≤ 16) (hG : GP T) (hB : BN S0 t0 (tN T) C W O lim due q dl rl dd rd pa N sk dk rk tg S7) (e8 : S8 = sQ S7 (ad 1 0 0) (tN T) (some q)) (e9 : S9 = sI S8 130 (ad 0 0 0) (nI (tN T + 1))) :
    INV (adB ad (tN T) q dl rl dd rd pa sk dk rk) (TB T (tN T) N (adB ad (tN T) q dl rl dd rd pa sk dk rk) S9) S9 := by
  obtain ⟨⟨hE, hT, hq0, hp0⟩, ⟨b1, b2, b3, b4, b5, b6, b7, b8, b9⟩, ⟨d1, d2, d3⟩, ⟨f1, f2, f3⟩, ⟨p1, p2, p3, p4⟩, hS⟩ := hB
  obtain ⟨ad', ead⟩ : ∃ ad', ad' = adB ad (tN T) q dl rl dd rd pa sk dk rk := ⟨_, rfl⟩
  rw [← ead]
  have m0 : ad 0 0 0 ∈ gL S0 := (h.ok (vk0 (by decide))).1
  have m1 : ad 1 0 0 ∈ gL S0 := (h.ok (vk0 (by decide))).1
  have aO : ∀ kd i j, ¬ (i = tN T ∧ 6 ≤ kd ∧ kd < 15) → ad' kd i j = ad kd i j := fun kd i j z => by rw [ead]; exact if_neg z
  have a6 : ad' 6 (tN T) 0 = q ∧ ad' 7 (tN T) 0 = dl ∧ ad' 8 (tN T) 0 = rl ∧ ad' 9 (tN T) 0 = dd ∧ ad' 10 (tN T) 0 = rd ∧ ad' 11 (tN T) 0 = pa := by
    rw [ead]; simp [adB]
  have a12 : ∀ k, ad' 12 (tN T) k = sk k ∧ ad' 13 (tN T) k = dk k ∧ ad' 14 (tN T) k = rk k := fun k => by
    rw [ead]; simp [adB]
  have oI : ∀ x, x ∈ gL S0 → ∀ c, ¬ (c = 130 ∧ x = ad 0 0 0) → gI S9 c x = gI S0 c x := fun x hx c z => by
    rw [e9, gI_sI, if_neg z, e8, gI_sQ]
    exact ((hE x hx).2 (fun y => y)).2.2.1 c
  have oR : ∀ x, x ∈ gL S0 → ∀ c, gR S9 c x = gR S0 c x := fun x hx c => by
    rw [e9, gR_sI, e8, gR_sQ]
    exact ((hE x hx).2 (fun y => y)).2.2.2.1 c
  have oA : ∀ x, x ∈ gL S0 → ∀ c, gA S9 x c = gA S0 x c := fun x hx c => by
    rw [e9, gA_sI, e8, gA_sQ]
    exact ((hE x hx).2 (fun y => y)).2.2.2.2.1 c
  have oQ : ∀ x, x ∈ gL S0 → ∀ c, ¬ (x = ad 1 0 0 ∧ c = tN T) → gQ S9 x c = gQ S0 x c := fun x hx c z => by
    rw [e9, gQ_sI, e8, gQ_sQ, if_neg z]
    exact ((hE x hx).2 (fun y => y)).2.2.2.2.2.1 c
  have k9 : ∀ x k, ok S7 x k → ok S9 x k := fun x k hx => by rw [e9, e8]; exact hx
  have n9 : ∀ x, gN S9 x = gN S7 x := fun x => by rw [e9, e8]; rfl
  have r9 : ∀ c x, gR S9 c x = gR S7 c x := fun c x => by rw [e9, e8]; rfl
  have oK : ∀ x k, ok S0 x k → ok S9 x k := fun x k hx => k9 x k (ok_exp hx hE (fun y => y))
  have oN : ∀ x, x ∈ gL S0 → gN S9 x = gN S0 x := fun x hx => (n9 x).trans ((hE x hx).2 (fun y => y)).2.1
  have eNT : tN (TB T (tN T) N ad' S9) = tN T + 1 := rfl
  have eST : ∀ b, tS (TB T (tN T) N ad' S9) b = if b = tN T then N else tS T b := fun b => rfl
  have wk : ∀ kd i j, vk T kd i j → ad' kd i j = ad kd i j := fun kd i j v => aO kd i j (vk_old v)
  obtain ⟨⟨x1, x2⟩, x3, x4, x5, x6, x7, x8, x9, x10⟩ := h.2.1
  obtain ⟨y1, y2, y3⟩ := h.2.2.choose_spec
  have tgo : ∀ kd i j, vk T kd i j → tg (ad kd i j) = (kd, i, j) := fun kd i j v => (hT _ (h.ok v).1).trans (ht kd i j v)
  refine ⟨fun kd i j v => ?_, ⟨⟨?_, ?_⟩, fun b hb => ?_, fun p hp => ?_, fun p hp => ?_, fun b hb => ?_, fun kd i j v hd => ?_, fun b k hb hk => ?_, fun j h1 h2 => ?_, ?_, fun b hb => ?_⟩, tg, fun kd i j v => ?_, ?_, ?_⟩
  · rcases vkB eNT eST v with v | ⟨h1, h2, rfl, rfl⟩ | ⟨h1, h2, rfl, h3⟩
    · obtain ⟨c1, c2, c3, c4⟩ := h.1 kd i j v
      have z := vk_old v
      rw [aO kd i j z]
      refine ⟨oK _ _ c1, fun hk => (oN _ c1.1).trans (c2 hk), fun c => ?_, fun m => ?_⟩
      · show gI S9 c (ad kd i j) = if i = tN T ∧ 6 ≤ kd ∧ kd < 15 then _ else if kd = 0 ∧ c = 130 then nI (tN T + 1) else tF T kd i j c
        rw [if_neg z]
        by_cases y : kd = 0 ∧ c = 130
        · have e0 : ad kd i j = ad 0 0 0 := by
            rcases v with ⟨-, w1, w2⟩ | ⟨w, -⟩ | ⟨w, -⟩ | ⟨w, -⟩ | ⟨w, -⟩ | ⟨w, -⟩ | ⟨w, -⟩
            · rw [y.1, w1, w2]
            all_goals omega
          rw [if_pos y, e9, gI_sI, if_pos ⟨y.2, e0⟩]
        · rw [if_neg y, oI _ c1.1 c (fun w => y ⟨((h.ne (vk0 (by decide)) v).mp w.2).1, w.1⟩), c3]
      · show gA S9 (ad kd i j) m = if i = tN T ∧ 6 ≤ kd ∧ kd < 15 then _ else tA T kd i j m
        rw [if_neg z, oA _ c1.1, c4]
    · have z : tN T = tN T ∧ 6 ≤ kd ∧ kd < 15 := ⟨rfl, h1, by omega⟩
      refine ⟨?_, ?_, fun c => ?_, fun m => ?_⟩
      · have : kd = 6 ∨ kd = 7 ∨ kd = 8 ∨ kd = 9 ∨ kd = 10 ∨ kd = 11 := by omega
        rcases this with rfl | rfl | rfl | rfl | rfl | rfl
        · rw [a6.1]; exact k9 _ _ b1
        · rw [a6.2.1]; exact k9 _ _ d1.1
        · rw [a6.2.2.1]; exact k9 _ _ d1.2.2.1
        · rw [a6.2.2.2.1]; exact k9 _ _ f1.1
        · rw [a6.2.2.2.2.1]; exact k9 _ _ f1.2.2.1
        · rw [a6.2.2.2.2.2]; exact k9 _ _ p1
      · have : kd = 6 ∨ kd = 7 ∨ kd = 8 ∨ kd = 9 ∨ kd = 10 ∨ kd = 11 := by omega
        intro hk
        rw [n9]
        rcases this with rfl | rfl | rfl | rfl | rfl | rfl
        · exact absurd hk (by decide)
        · exact absurd hk (by decide)
        · rw [a6.2.2.1]; exact d1.2.2.2.1
        · exact absurd hk (by decide)
        · rw [a6.2.2.2.2.1]; exact f1.2.2.2.1
        · rw [a6.2.2.2.2.2]; exact p2
      · show _ = if tN T = tN T ∧ 6 ≤ kd ∧ kd < 15 then gI S9 c (ad' kd (tN T) 0) else _
        rw [if_pos z]
      · show _ = if tN T = tN T ∧ 6 ≤ kd ∧ kd < 15 then gA S9 (ad' kd (tN T) 0) m else _
        rw [if_pos z]
    · have z : tN T = tN T ∧ 6 ≤ kd ∧ kd < 15 := ⟨rfl, by omega, h2⟩
      obtain ⟨s1, s2, s3, s4⟩ := hS j h3
      have : kd = 12 ∨ kd = 13 ∨ kd = 14 := by omega
      refine ⟨?_, ?_, fun c => ?_, fun m => ?_⟩
      · rcases this with rfl | rfl | rfl
        · rw [(a12 j).1]; exact k9 _ _ s1.1
        · rw [(a12 j).2.1]; exact k9 _ _ s1.2.2.1.1
        · rw [(a12 j).2.2]; exact k9 _ _ s1.2.2.1.2.2.1
      · intro hk
        rw [n9]
        rcases this with rfl | rfl | rfl
        · exact absurd hk (by decide)
        · exact absurd hk (by decide)
        · rw [(a12 j).2.2]; exact s1.2.2.1.2.2.2.1
      · show _ = if tN T = tN T ∧ 6 ≤ kd ∧ kd < 15 then gI S9 c (ad' kd (tN T) j) else _
        rw [if_pos z]
      · show _ = if tN T = tN T ∧ 6 ≤ kd ∧ kd < 15 then gA S9 (ad' kd (tN T) j) m else _
        rw [if_pos z]
  · rw [wk 0 0 0 (vk0 (by decide)), wk 1 0 0 (vk0 (by decide)), oR _ m0]; exact x1
  · rw [wk 0 0 0 (vk0 (by decide)), wk 2 0 0 (vk0 (by decide)), oR _ m0]; exact x2
  · rw [wk 1 0 0 (vk0 (by decide)), eNT]
    by_cases z : b = tN T
    · subst z
      rw [if_pos (by omega), a6.1, e9, gQ_sI, e8, gQ_sQ, if_pos ⟨rfl, rfl⟩]
    · rw [oQ _ m1 b (fun y => z y.2), x3 b hb]
      by_cases y : b < tN T
      · rw [if_pos y, if_pos (by omega), aO 6 b 0 (by omega)]
      · rw [if_neg y, if_neg (by omega)]
  · rw [wk 2 0 0 (vk0 (by decide)), wk 3 p 0 (vk3 hp (by decide) (by decide)), oQ _ (h.ok (vk0 (by decide))).1 p (fun y => absurd ((h.ne (vk0 (kd := 1) (by decide)) (vk0 (kd := 2) (by decide))).mp y.1).1 (by decide))]
    exact x4 p hp
  · obtain ⟨c1, c2, c3, c4⟩ := x5 p hp
    have mp : ad 3 p 0 ∈ gL S0 := (h.ok (vk3 hp (by decide) (by decide))).1
    rw [wk 3 p 0 (vk3 hp (by decide) (by decide)), wk 4 p 0 (vk3 hp (by decide) (by decide)), wk 5 p 0 (vk3 hp (by decide) (by decide)), oR _ mp, oR _ mp, oR _ mp, oR _ mp]
    refine ⟨c1, c2, ?_, ?_⟩
    · rw [c3]
      show (tB T p).map _ = (tB T p).map _
      cases w : tP T p with
      | none => rw [(hG p hp).1 w]; rfl
      | some q' =>
        obtain ⟨w1, w2, w3⟩ := (hG p hp).2 q' w
        rw [w1]
        show some (ad 6 q'.1 0) = some (ad' 6 q'.1 0)
        rw [aO 6 q'.1 0 (by omega)]
    · rw [c4]
      show (tP T p).map _ = (tP T p).map _
      cases w : tP T p with
      | none => rfl
      | some q' =>
        obtain ⟨w1, w2, w3⟩ := (hG p hp).2 q' w
        show some (ad 12 q'.1 q'.2) = some (ad' 12 q'.1 q'.2)
        rw [aO 12 q'.1 q'.2 (by omega)]
  · rcases Nat.lt_or_ge b (tN T) with z | z
    · obtain ⟨c1, c2, c3, c4⟩ := x6 b z
      have v6 : ∀ kd, 6 ≤ kd → kd < 12 → vk T kd b 0 := fun kd w1 w2 => vk6 z w1 w2
      have mb : ad 6 b 0 ∈ gL S0 := (h.ok (v6 6 (by decide) (by decide))).1
      have mp : ad 11 b 0 ∈ gL S0 := (h.ok (v6 11 (by decide) (by decide))).1
      rw [wk 6 b 0 (v6 6 (by decide) (by decide)), wk 7 b 0 (v6 7 (by decide) (by decide)), wk 9 b 0 (v6 9 (by decide) (by decide)), wk 11 b 0 (v6 11 (by decide) (by decide)), oR _ mb, oR _ mb, oR _ mb]
      refine ⟨c1, c2, c3, fun k hk => ?_⟩
      rw [oQ _ mp k (fun y => absurd ((h.ne (vk0 (kd := 1) (by decide)) (v6 11 (by decide) (by decide))).mp y.1).1 (by decide)), c4 k hk, eST, if_neg (show ¬ b = tN T from by omega), aO 12 b k (by omega)]
    · obtain rfl : b = tN T := by have : b < tN T + 1 := hb; omega
      rw [a6.1, a6.2.1, a6.2.2.2.1, a6.2.2.2.2.2, r9, r9, r9]
      refine ⟨b3, b4, b5, fun k hk => ?_⟩
      rw [eST, if_pos rfl, (a12 k).1, e9, gQ_sI, e8, gQ_sQ, if_neg (show ¬ (pa = ad 1 0 0 ∧ k = tN T) from fun y => hp0 (y.1 ▸ m1)), p4 k hk]
  · rcases vkB eNT eST v with v | ⟨h1, h2, rfl, rfl⟩ | ⟨h1, h2, rfl, h3⟩
    · rw [wk kd i j v, wk (kd + 1) i j (vkd hd v), oR _ (h.ok v).1]
      exact x7 kd i j v hd
    · rcases hd with rfl | rfl | rfl
      · rw [a6.2.1, show (7 : Nat) + 1 = 8 from rfl, a6.2.2.1, r9]; exact d1.2.1
      · rw [a6.2.2.2.1, show (9 : Nat) + 1 = 10 from rfl, a6.2.2.2.2.1, r9]; exact f1.2.1
      · omega
    · rcases hd with rfl | rfl | rfl
      · omega
      · omega
      · rw [(a12 j).2.1, show (13 : Nat) + 1 = 14 from rfl, (a12 j).2.2, r9]
        exact (hS j h3).1.2.2.1.2.1
  · rcases Nat.lt_or_ge b (tN T) with z | z
    · rw [eST, if_neg (by omega)] at hk
      rw [aO 12 b k (by omega), aO 13 b k (by omega), oR _ (h.ok (vk12 z hk (by decide) (by decide))).1]
      exact x8 b k z hk
    · obtain rfl : b = tN T := by have : b < tN T + 1 := hb; omega
      rw [eST, if_pos rfl] at hk
      rw [(a12 k).1, (a12 k).2.1, r9]
      exact (hS k hk).1.2.1
  · rw [wk 15 0 0 vk15, wk 16 j 0 (vk16 h1 h2), oR _ (h.ok vk15).1]
    exact x9 j h1 h2
  · rw [eNT]; omega
  · rw [eST]
    by_cases z : b = tN T
    · rw [if_pos z]; exact n16
    · rw [if_neg z]
      exact x10.2 b (by have : b < tN T + 1 := hb; omega)
  · rcases vkB eNT eST v with v | ⟨h1, h2, rfl, rfl⟩ | ⟨h1, h2, rfl, h3⟩
    · rw [wk kd i j v]; exact tgo kd i j v
    · have : kd = 6 ∨ kd = 7 ∨ kd = 8 ∨ kd = 9 ∨ kd = 10 ∨ kd = 11 := by omega
      rcases this with rfl | rfl | rfl | rfl | rfl | rfl
      · rw [a6.1]; exact b2
      · rw [a6.2.1]; exact d2
      · rw [a6.2.2.1]; exact d3
      · rw [a6.2.2.2.1]; exact f2
      · rw [a6.2.2.2.2.1]; exact f3
      · rw [a6.2.2.2.2.2]; exact p3
    · obtain ⟨s1, s2, s3, s4⟩ := hS j h3
      have : kd = 12 ∨ kd = 13 ∨ kd = 14 := by omega
      rcases this with rfl | rfl | rfl
      · rw [(a12 j).1]; exact s2
      · rw [(a12 j).2.1]; exact s3
      · rw [(a12 j).2.2]; exact s4
  · rw [wk 17 0 0 (vk17 (by decide) (by decide)), aO 100 0 0 (by omega), ← y2, e9, gJ_sI, e8, gJ_sQ]
    rw [((hE _ (h.ok (vk17 (by decide) (by decide))).1).2 (fun y => y)).2.2.2.2.2.2.1 0]
  · rw [wk 18 0 0 (vk17 (by decide) (by decide)), aO 101 0 0 (by omega), ← y3, e9, gD_sI, e8, gD_sQ]
    rw [((hE _ (h.ok (vk17 (by decide) (by decide))).1).2 (fun y => y)).2.2.2.2.2.2.2 0]
end BG
