/-! The class's shop and the reference's, side by side -/
def RR0 (T : TT) (M : MM) : Prop := tF T 0 0 0 130 = nI (tN T) ∧ M.1 161 = nI (tN T) ∧ tF T 0 0 0 131 = M.1 160 ∧ tN T ≤ 5
def RRb (T : TT) (M : MM) (b C W O : Nat) : Prop := GEO M b C W O (tS T b) ∧ tF T 6 b 0 0 = nI C ∧ tF T 6 b 0 1 = M.2 5 b ∧ tF T 6 b 0 2 = M.2 6 b ∧ tF T 6 b 0 6 = nI (tS T b) ∧ ∀ k, k < tS T b → tF T 12 b k 96 = nI k ∧ tF T 12 b k 97 = nI (k * (W - O)) ∧ tF T 12 b k 98 = nI (eN C W O k) ∧ tF T 12 b k 99 = nI (if k = 0 then 0 else k * (W - O) + O) ∧ tF T 12 b k 100 = nI (if eN C W O k = C then eN C W O k else k * (W - O) + (W - O))
def RRs (T : TT) (M : MM) : Prop := ∀ b, b < tN T → RRb T M b (gC M b) (gW M b) (gO M b)
def RRd (T : TT) (M : MM) : Prop := ∀ b, b < tN T → tF T 6 b 0 7 = M.2 11 b ∧ ∀ n, n < 256 → tA T 8 b 0 n = M.2 7 (256 * b + n) ∧ tA T 10 b 0 n = mlaid M (256 * b + n)
def inr (M : MM) (b k c : Nat) : Prop := k * (gW M b - gO M b) ≤ c ∧ c < eN (gC M b) (gW M b) (gO M b) k
def RRl (T : TT) (M : MM) : Prop := ∀ b k r c, b < tN T → k < tS T b → r < 8 → inr M b k c → tA T 14 b k (32 * r + c) = M.2 8 (1280 * (k % 2) + (256 * b + 32 * r + c))
def RRk (T : TT) (M : MM) : Prop := ∀ b k, b < tN T → k < tS T b → tF T 12 b k 102 = M.2 9 (16 * b + k) ∧ tF T 12 b k 104 = M.2 10 (16 * b + k) ∧ (tF T 12 b k 103 = 0 ↔ ∀ p, p < 3 → ¬ tP T p = some (b, k)) ∧ ∀ p, p < 3 → tP T p = some (b, k) → M.2 9 (16 * b + k) = -1 ∧ ∀ p', p' < 3 → tP T p' = some (b, k) → p' = p
def RRp (T : TT) (M : MM) : Prop := ∀ p, p < 3 → (∃ g, 50 ≤ g ∧ g ≤ 200 ∧ tF T 3 p 0 64 = nI g ∧ M.2 12 p = nI g) ∧ tF T 3 p 0 65 = M.2 13 p ∧ (∀ n, n < 8 → tA T 4 p 0 n = M.2 14 (8 * p + n)) ∧ tF T 3 p 0 68 = M.2 15 p
def RRq (T : TT) (M : MM) : Prop := ∀ p, p < 3 → (tP T p = none → tB T p = none ∧ M.2 16 p = -1) ∧ ∀ q, tP T p = some q → tB T p = some q.1 ∧ q.1 < tN T ∧ q.2 < tS T q.1 ∧ M.2 16 p = nI (16 * q.1 + q.2) ∧ tF T 3 p 0 72 = nI q.1 ∧ ∃ t, t ≤ 12 ∧ tF T 3 p 0 73 = nI t ∧ M.2 17 p = nI t
def RRw (T : TT) (M : MM) : Prop := ∀ p, p < 3 → tF T 3 p 0 69 = acc (fun k => if M.2 9 k = nI p then 1 else 0) 80 0 0
def RRo (T : TT) (M : MM) : Prop := ∀ n, n < 80 → ¬ (n / 16 < tN T ∧ n % 16 < tS T (n / 16)) → M.2 9 n = -1 ∧ M.2 10 n = -1
def RRn (T : TT) (M : MM) : Prop := ∀ b, tN T ≤ b → b < 5 → M.2 11 b = 0 ∧ ∀ n, n < 256 → M.2 7 (256 * b + n) = 0 ∧ M.2 8 (256 * b + n) = 0 ∧ M.2 8 (1280 + (256 * b + n)) = 0
def RR (T : TT) (M : MM) : Prop := RR0 T M ∧ RRs T M ∧ RRd T M ∧ RRl T M ∧ RRk T M ∧ RRp T M ∧ RRq T M ∧ RRw T M ∧ RRo T M ∧ RRn T M
def RRt (T : TT) : Prop := ∀ p, p < 3 → ¬ tP T p = none → ¬ tF T 3 p 0 73 = 0
/-- what stays of the measures -/
def Sm (T : TT) (M : MM) (T' : TT) (M' : MM) : Prop := tN T' = tN T ∧ tS T' = tS T ∧ (∀ b c, c ≤ 6 → tF T' 6 b 0 c = tF T 6 b 0 c) ∧ (∀ b k c, 96 ≤ c → c ≤ 100 → tF T' 12 b k c = tF T 12 b k c) ∧ ∀ j n, 2 ≤ j → j ≤ 6 → M'.2 j n = M.2 j n
theorem Sm_g {T : TT} {M : MM} {T' : TT} {M' : MM} (s : Sm T M T' M') (b : Nat) : gC M' b = gC M b ∧ gW M' b = gW M b ∧ gO M' b = gO M b := by
  obtain ⟨-, -, -, -, h⟩ := s
  unfold gC gW gO
  rw [h 2 b (by decide) (by decide), h 3 b (by decide) (by decide), h 4 b (by decide) (by decide)]
  exact ⟨rfl, rfl, rfl⟩
theorem RRs_e {T : TT} {M : MM} {T' : TT} {M' : MM} (s : Sm T M T' M') (h : RRs T M) : RRs T' M' := by
  obtain ⟨s1, s2, s3, s4, s5⟩ := id s
  intro b hb
  obtain ⟨g1, g2, g3⟩ := Sm_g s b
  rw [g1, g2, g3]
  obtain ⟨a1, a2, a3, a4, a5, a6⟩ := h b (s1 ▸ hb)
  unfold RRb
  rw [s2]
  refine ⟨GEO_e a1 (s5 2 b (by decide) (by decide)) (s5 3 b (by decide) (by decide)) (s5 4 b (by decide) (by decide)), ?_, ?_, ?_, ?_, fun k hk => ?_⟩
  · rw [s3 b 0 (by decide)]; exact a2
  · rw [s3 b 1 (by decide), s5 5 b (by decide) (by decide)]; exact a3
  · rw [s3 b 2 (by decide), s5 6 b (by decide) (by decide)]; exact a4
  · rw [s3 b 6 (by decide)]; exact a5
  · rw [s4 b k 96 (by decide) (by decide), s4 b k 97 (by decide) (by decide), s4 b k 98 (by decide) (by decide), s4 b k 99 (by decide) (by decide), s4 b k 100 (by decide) (by decide)]
    exact a6 k hk
theorem inr_e {T : TT} {M : MM} {T' : TT} {M' : MM} (s : Sm T M T' M') (b k c : Nat) : inr M' b k c ↔ inr M b k c := by
  obtain ⟨g1, g2, g3⟩ := Sm_g s b
  unfold inr
  rw [g1, g2, g3]
theorem pmul {k : Nat} (hk : 0 < k) (x : Nat) : k * x = (k - 1) * x + x := by
  conv => lhs; rw [show k = (k - 1) + 1 from by omega]
  rw [Nat.succ_mul]
theorem geo_fe {M : MM} {b C W O N k : Nat} (g : GEO M b C W O N) (hk : k < N) : k * (W - O) < eN C W O k ∧ eN C W O k ≤ k * (W - O) + W ∧ eN C W O k ≤ 32 := by
  obtain ⟨-, -, -, g4, g5, g6, g7, g8, g9, g10, g11, g12⟩ := g
  unfold eN
  by_cases z : k * (W - O) + W < C
  · rw [if_pos z]; omega
  · rw [if_neg z]
    rcases Nat.eq_zero_or_pos k with y | y
    · subst y; omega
    · have := g11 k y hk
      have e1 := pmul y (W - O)
      omega
theorem geo_par {M : MM} {b C W O N k k' c : Nat} (g : GEO M b C W O N) (hk : k < N) (hk' : k' < N) (hp : k % 2 = k' % 2) (h1 : k * (W - O) ≤ c ∧ c < eN C W O k) (h2 : k' * (W - O) ≤ c ∧ c < eN C W O k') : k = k' := by
  have key : ∀ a a' : Nat, a < N → a' < N → a % 2 = a' % 2 → a < a' → a' * (W - O) ≤ c → c < eN C W O a → False := by
    intro a a' ha ha' hp' hl h3 h4
    have f := (geo_fe g ha).2.1
    obtain ⟨-, -, -, g4, g5, g6, g7, g8, g9, g10, g11, g12⟩ := g
    have : (a + 2) * (W - O) ≤ a' * (W - O) := Nat.mul_le_mul_right _ (by omega)
    rw [Nat.add_mul] at this
    omega
  rcases Nat.lt_trichotomy k k' with q | q | q
  · exact (key k k' hk hk' hp q h2.1 h1.2).elim
  · exact q
  · exact (key k' k hk' hk hp.symm q h1.1 h2.2).elim
theorem share_eq {T : TT} {M : MM} {b C W O k c : Nat} {lv : Int32} (h : RRb T M b C W O) (hk : k < tS T b) (hc : c < 32) : cshare T b k lv (nI c) = shr C W O (tS T b) k lv c := by
  obtain ⟨g, -, -, -, -, a6⟩ := h
  obtain ⟨-, b1, b2, b3, b4⟩ := a6 k hk
  have fe := geo_fe g hk
  have fe2 : k + 1 < tS T b → (k + 1) * (W - O) < eN C W O (k + 1) ∧ eN C W O (k + 1) ≤ (k + 1) * (W - O) + W ∧ eN C W O (k + 1) ≤ 32 := fun z => geo_fe g z
  obtain ⟨-, -, -, g4, g5, g6, g7, g8, g9, g10, g11, g12⟩ := g
  have k1 := kst (k := k) (O := O) (by omega) g7
  have m1 : (k + 1) * (W - O) = k * (W - O) + (W - O) := Nat.succ_mul k (W - O)
  unfold cshare
  rw [b1, b2, b3, b4]
  unfold shr
  by_cases z1 : c < k * (W - O)
  · rw [if_pos (nI_lt z1 (by omega)), if_neg (fun y => by omega)]
  · rw [if_neg (nI_nlt (by omega) (by omega))]
    by_cases z2 : c < eN C W O k
    · rw [if_pos (nI_lt z2 (by omega)), if_pos (show k * (W - O) ≤ c ∧ c < eN C W O k from ⟨by omega, z2⟩)]
      have hr : (if eN C W O k = C then eN C W O k else k * (W - O) + (W - O)) ≤ 32 + 12 := by split <;> omega
      have hl : (if k = 0 then 0 else k * (W - O) + O) ≤ 192 + 12 := by split <;> omega
      by_cases z3 : c < (if eN C W O k = C then eN C W O k else k * (W - O) + (W - O))
      · rw [if_pos (nI_lt z3 (by omega))]
        have n3 : ¬ (k + 1 < tS T b ∧ (k + 1) * (W - O) ≤ c ∧ c < eN C W O (k + 1)) := by
          rintro ⟨y1, y2, y3⟩
          have := g11 (k + 1) (by omega) y1
          rw [Nat.add_sub_cancel] at this
          rw [if_neg (by unfold eN; rw [if_pos this]; omega)] at z3
          omega
        rw [if_neg n3]
        by_cases z4 : (if k = 0 then 0 else k * (W - O) + O) ≤ c
        · rw [if_pos (nI_le z4 (by omega))]
          rw [if_neg]
          rintro ⟨y1, y2, y3⟩
          rw [if_neg (by omega)] at z4
          have := g11 k y1 hk
          have e1 := pmul y1 (W - O)
          unfold eN at y3
          rw [if_pos this] at y3
          omega
        · rw [if_neg (nI_ge (by omega) (by omega))]
          have y1 : 0 < k := by
            rcases Nat.eq_zero_or_pos k with y | y
            · rw [if_pos y] at z4; omega
            · exact y
          rw [if_neg (by omega)] at z4
          have := g11 k y1 hk
          have e1 := pmul y1 (W - O)
          rw [if_pos]
          refine ⟨y1, by omega, ?_⟩
          unfold eN
          rw [if_pos this]
          omega
      · rw [if_neg (nI_nlt (by omega) (by omega))]
        have y0 : ¬ eN C W O k = C := by
          intro y
          rw [if_pos y] at z3
          omega
        rw [if_neg y0] at z3
        have y1 : k + 1 < tS T b := by
          rcases Nat.lt_or_ge (k + 1) (tS T b) with q | q
          · exact q
          · exfalso
            have : tS T b - 1 = k := by omega
            rw [this] at g12
            apply y0
            unfold eN
            rw [if_neg (by omega)]
        rw [if_pos]
        refine ⟨y1, by omega, ?_⟩
        have := g11 (k + 1) (by omega) y1
        rw [Nat.add_sub_cancel] at this
        unfold eN at z2
        rw [if_pos this] at z2
        unfold eN
        split <;> omega
    · rw [if_neg (nI_nlt (by omega) (by omega)), if_neg (fun y => z2 y.2)]
theorem sum1 (a b x : Int32) : a + b - a + x = x + b := by grind
theorem sum2 (a b x : Int32) : a + b - b + x = a + x := by grind
theorem RR_dose {T : TT} {M : MM} {p r : Nat} {x y : Int32} (h : RR T M) : RR (uA T 5 p 0 r x) (mA M 18 r y) := by
  obtain ⟨h0, hs, hd, hl, hk, hp, hq, hw, ho, hn⟩ := h
  have s : Sm T M (uA T 5 p 0 r x) (mA M 18 r y) := ⟨rfl, rfl, fun _ _ _ => rfl, fun _ _ _ _ _ => rfl, fun j n a b => by rw [mA_2, if_neg (fun z => by omega)]⟩
  refine ⟨h0, RRs_e s hs, fun b hb => ?_, fun b k r c hb hk hr hc => ?_, hk, hp, hq, hw, ho, hn⟩
  · exact hd b hb
  · exact hl b k r c hb hk hr ((inr_e s b k c).mp hc)
theorem RR_dot {T : TT} {M : MM} {p b k r c : Nat} {x : Int32} (h : RR T M) (hp3 : p < 3) (hb : b < tN T) (hk0 : k < tS T b) (hr0 : r < 8) (hc0 : inr M b k c) : RR (ulp p b k (32 * r + c) x T) (mlp p b (1280 * (k % 2) + (256 * b + 32 * r + c)) x M) := by
  obtain ⟨h0, hs, hd, hl, hk, hp, hq, hw, ho, hn⟩ := h
  have g := (hs b hb).1
  have fe := geo_fe g hk0
  have n5 : b < 5 := by have := h0.2.2.2; omega
  have c32 : c < 32 := by have := hc0.2; omega
  have s : Sm T M (ulp p b k (32 * r + c) x T) (mlp p b (1280 * (k % 2) + (256 * b + 32 * r + c)) x M) := by
    refine ⟨rfl, rfl, fun b' c' hc' => ?_, fun b' k' c' h1 h2 => ?_, fun j n a1 a2 => mlp_e (by omega) (by omega) (by omega)⟩
    · unfold ulp ulay
      rw [tF_uF, if_neg (fun y => by omega), tF_uF, if_neg (fun y => by omega)]; rfl
    · unfold ulp ulay
      rw [tF_uF, if_neg (fun y => by omega), tF_uF, if_neg (fun y => by omega)]; rfl
  have e8 : ∀ n, (mlp p b (1280 * (k % 2) + (256 * b + 32 * r + c)) x M).2 8 n = if n = 1280 * (k % 2) + (256 * b + 32 * r + c) then x else M.2 8 n := by
    intro n
    unfold mlp
    rw [mA_2, if_neg (fun y => absurd y.1 (by decide)), mA_2, if_neg (fun y => absurd y.1 (by decide)), mA_2]
    by_cases z : n = 1280 * (k % 2) + (256 * b + 32 * r + c)
    · rw [if_pos z, if_pos ⟨rfl, z⟩]
    · rw [if_neg z, if_neg (fun y => z y.2)]
  refine ⟨h0, RRs_e s hs, fun b' hb' => ⟨?_, fun n hn' => ⟨?_, ?_⟩⟩, fun b' k' r' c' hb' hk' hr' hc' => ?_, fun b' k' hb' hk' => ?_, fun p' hp' => ?_, fun p' hp' => ?_, fun p' hp' => ?_, fun n a1 a2 => ?_, fun b' h1 h2 => ?_⟩
  · obtain ⟨d1, d2⟩ := hd b' hb'
    unfold ulp ulay mlp
    rw [tF_uF, if_neg (fun y => absurd y.1 (by decide)), tF_uF, mA_2, mA_2, mA_2, if_neg (show ¬ ((11 : Nat) = 15 ∧ b' = p) from fun y => absurd y.1 (by decide)), if_neg (show ¬ ((11 : Nat) = 8 ∧ _) from fun y => absurd y.1 (by decide))]
    by_cases z : b' = b
    · subst z
      rw [if_pos ⟨rfl, rfl, rfl, rfl⟩, if_pos ⟨rfl, rfl⟩, d1]
    · rw [if_neg (fun y => z y.2.1), if_neg (fun y => z y.2)]
      exact d1
  · rw [mlp_e (by decide) (by decide) (by decide)]
    exact ((hd b' hb').2 n hn').1
  · have d2 := ((hd b' hb').2 n hn').2
    have l2 := hl b k r c hb hk0 hr0 hc0
    unfold mlaid at d2 ⊢
    have h5 := h0.2.2.2
    have hb2 : b' < tN T := hb'
    rw [e8, e8]
    show (if 10 = 10 ∧ b' = b ∧ 0 = 0 ∧ n = 32 * r + c then tA T 10 b 0 (32 * r + c) - tA T 14 b k (32 * r + c) + x else tA T 10 b' 0 n) = _
    by_cases z : b' = b ∧ n = 32 * r + c
    · obtain ⟨rfl, rfl⟩ := z
      rw [if_pos ⟨rfl, rfl, rfl, rfl⟩, d2, l2]
      rcases Nat.mod_two_eq_zero_or_one k with y | y
      · rw [y, if_pos (by omega), if_neg (by omega), show 1280 * 0 + (256 * b' + 32 * r + c) = 256 * b' + (32 * r + c) from by omega]
        exact sum1 _ _ _
      · rw [y, if_neg (by omega), if_pos (by omega), show 1280 * 1 + (256 * b' + 32 * r + c) = 1280 + (256 * b' + (32 * r + c)) from by omega]
        exact sum2 _ _ _
    · rw [if_neg (fun y => z ⟨y.2.1, y.2.2.2⟩), if_neg (by omega), if_neg (by omega)]
      exact d2
  · rw [e8]
    show (if 14 = 14 ∧ b' = b ∧ k' = k ∧ 32 * r' + c' = 32 * r + c then x else tA T 14 b' k' (32 * r' + c')) = _
    have hc2 := (inr_e s b' k' c').mp hc'
    have fe' := geo_fe (hs b' hb').1 hk'
    have c32' : c' < 32 := by have := hc2.2; omega
    by_cases z : b' = b ∧ k' = k ∧ r' = r ∧ c' = c
    · obtain ⟨rfl, rfl, rfl, rfl⟩ := z
      rw [if_pos ⟨rfl, rfl, rfl, rfl⟩, if_pos rfl]
    · have h5' := h0.2.2.2
      have hb2 : b' < tN T := hb'
      rw [if_neg (show ¬ ((14 : Nat) = 14 ∧ b' = b ∧ k' = k ∧ 32 * r' + c' = 32 * r + c) from fun y => z ⟨y.2.1, y.2.2.1, by omega, by omega⟩), if_neg]
      · exact hl b' k' r' c' hb' hk' hr' hc2
      · intro y
        have q1 : b' = b := by omega
        have q2 : r' = r ∧ c' = c ∧ k' % 2 = k % 2 := by omega
        obtain ⟨q3, q4, q5⟩ := q2
        subst q1 q3 q4
        exact z ⟨rfl, geo_par (hs b' hb').1 hk' hk0 q5 hc2 hc0, rfl, rfl⟩
  · have := hk b' k' hb' hk'
    have e1 : ∀ z, tF (ulp p b k (32 * r + c) x T) 12 b' k' z = tF T 12 b' k' z := by
      intro z
      unfold ulp ulay
      rw [tF_uF, if_neg (fun y => absurd y.1 (by decide)), tF_uF, if_neg (fun y => absurd y.1 (by decide))]; rfl
    rw [e1, e1, e1, mlp_e (by decide) (by decide) (by decide), mlp_e (by decide) (by decide) (by decide)]
    exact this
  · obtain ⟨a1, a2, a3, a4⟩ := hp p' hp'
    have e1 : ∀ z, z ≠ 68 → tF (ulp p b k (32 * r + c) x T) 3 p' 0 z = tF T 3 p' 0 z := by
      intro z hz
      unfold ulp ulay
      rw [tF_uF, if_neg (fun y => hz y.2.2.2), tF_uF, if_neg (fun y => absurd y.1 (by decide))]; rfl
    refine ⟨?_, ?_, fun n hn => ?_, ?_⟩
    · rw [e1 64 (by decide), mlp_e (by decide) (by decide) (by decide)]; exact a1
    · rw [e1 65 (by decide), mlp_e (by decide) (by decide) (by decide)]; exact a2
    · rw [mlp_e (by decide) (by decide) (by decide)]; exact a3 n hn
    · have a5 := (hp p hp3).2.2.2
      unfold ulp ulay mlp
      rw [tF_uF, mA_2, mA_2, mA_2, if_neg (show ¬ ((15 : Nat) = 11 ∧ p' = b) from fun y => absurd y.1 (by decide)), if_neg (show ¬ ((15 : Nat) = 8 ∧ _) from fun y => absurd y.1 (by decide))]
      by_cases z : p' = p
      · subst z
        rw [if_pos ⟨rfl, rfl, rfl, rfl⟩, if_pos ⟨rfl, rfl⟩, ← a5]
      · rw [if_neg (fun y => z y.2.1), if_neg (fun y => z y.2), tF_uF, if_neg (fun y => absurd y.1 (by decide))]
        exact a4
  · have e1 : ∀ z, z ≠ 68 → tF (ulp p b k (32 * r + c) x T) 3 p' 0 z = tF T 3 p' 0 z := by
      intro z hz
      unfold ulp ulay
      rw [tF_uF, if_neg (fun y => hz y.2.2.2), tF_uF, if_neg (fun y => absurd y.1 (by decide))]; rfl
    rw [e1 72 (by decide), e1 73 (by decide), mlp_e (by decide) (by decide) (by decide), mlp_e (by decide) (by decide) (by decide)]
    exact hq p' hp'
  · have e1 : tF (ulp p b k (32 * r + c) x T) 3 p' 0 69 = tF T 3 p' 0 69 := by
      unfold ulp ulay
      rw [tF_uF, if_neg (fun y => absurd y.2.2.2 (by decide)), tF_uF, if_neg (fun y => absurd y.1 (by decide))]; rfl
    rw [e1]
    refine (hw p' hp').trans (acc_congr 80 0 0 (fun j _ _ => ?_))
    rw [mlp_e (by decide) (by decide) (by decide)]
  · rw [mlp_e (by decide) (by decide) (by decide), mlp_e (by decide) (by decide) (by decide)]
    exact ho n a1 a2
  · obtain ⟨n1, n2⟩ := hn b' h1 h2
    have hbb : b < b' := Nat.lt_of_lt_of_le hb h1
    refine ⟨?_, fun n hn' => ⟨?_, ?_, ?_⟩⟩
    · unfold mlp
      rw [mA_2, if_neg (fun y => by omega), mA_2, if_neg (fun y => absurd y.1 (by decide)), mA_2, if_neg (fun y => absurd y.1 (by decide))]
      exact n1
    · rw [mlp_e (by decide) (by decide) (by decide)]; exact (n2 n hn').1
    · rw [e8, if_neg (by omega)]; exact (n2 n hn').2.1
    · rw [e8, if_neg (by omega)]; exact (n2 n hn').2.2
