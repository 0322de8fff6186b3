/-! The reference: its state as maps -/
abbrev MM : Type := (Nat → Int32) × (Nat → Nat → Int32)
def mF (M : MM) (c : Nat) (v : Int32) : MM := (fun c' => if c' = c then v else M.1 c', M.2)
def mA (M : MM) (j n : Nat) (v : Int32) : MM := (M.1, fun j' n' => if j' = j ∧ n' = n then v else M.2 j' n')
def TM (T : TT) (M : MM) : TT := (fun kd i j c => if kd = 15 ∧ i = 0 ∧ j = 0 then M.1 c else tF T kd i j c, fun kd i j n => if kd = 16 ∧ j = 0 then M.2 i n else tA T kd i j n, T.2.2)
def gM (T : TT) : MM := (fun c => tF T 15 0 0 c, fun j n => tA T 16 j 0 n)
theorem TM_gM (T : TT) : TM T (gM T) = T := by
  refine Prod.ext ?_ (Prod.ext ?_ rfl)
  · funext kd i j c
    show (if kd = 15 ∧ i = 0 ∧ j = 0 then tF T 15 0 0 c else tF T kd i j c) = tF T kd i j c
    by_cases z : kd = 15 ∧ i = 0 ∧ j = 0
    · obtain ⟨rfl, rfl, rfl⟩ := z
      rw [if_pos ⟨rfl, rfl, rfl⟩]
    · rw [if_neg z]
  · funext kd i j n
    show (if kd = 16 ∧ j = 0 then tA T 16 i 0 n else tA T kd i j n) = tA T kd i j n
    by_cases z : kd = 16 ∧ j = 0
    · obtain ⟨rfl, rfl⟩ := z
      rw [if_pos ⟨rfl, rfl⟩]
    · rw [if_neg z]
theorem gM_TM (T : TT) (M : MM) : gM (TM T M) = M := by
  refine Prod.ext ?_ ?_
  · funext c
    show (if (15 : Nat) = 15 ∧ (0 : Nat) = 0 ∧ (0 : Nat) = 0 then M.1 c else tF T 15 0 0 c) = M.1 c
    rw [if_pos ⟨rfl, rfl, rfl⟩]
  · funext j n
    show (if (16 : Nat) = 16 ∧ (0 : Nat) = 0 then M.2 j n else tA T 16 j 0 n) = M.2 j n
    rw [if_pos ⟨rfl, rfl⟩]
theorem TM_mF (T : TT) (M : MM) (c : Nat) (v : Int32) : uF (TM T M) 15 0 0 c v = TM T (mF M c v) := by
  refine Prod.ext ?_ rfl
  funext kd i j c'
  show (if kd = 15 ∧ i = 0 ∧ j = 0 ∧ c' = c then v else if kd = 15 ∧ i = 0 ∧ j = 0 then M.1 c' else tF T kd i j c') = if kd = 15 ∧ i = 0 ∧ j = 0 then (if c' = c then v else M.1 c') else tF T kd i j c'
  by_cases z : kd = 15 ∧ i = 0 ∧ j = 0
  · by_cases y : c' = c
    · rw [if_pos ⟨z.1, z.2.1, z.2.2, y⟩, if_pos z, if_pos y]
    · rw [if_neg (fun w => y w.2.2.2), if_pos z, if_pos z, if_neg y]
  · rw [if_neg (fun w => z ⟨w.1, w.2.1, w.2.2.1⟩), if_neg z, if_neg z]
theorem TM_mA (T : TT) (M : MM) (j n : Nat) (v : Int32) : uA (TM T M) 16 j 0 n v = TM T (mA M j n v) := by
  refine Prod.ext rfl (Prod.ext ?_ rfl)
  funext kd i j' n'
  show (if kd = 16 ∧ i = j ∧ j' = 0 ∧ n' = n then v else if kd = 16 ∧ j' = 0 then M.2 i n' else tA T kd i j' n') = if kd = 16 ∧ j' = 0 then (if i = j ∧ n' = n then v else M.2 i n') else tA T kd i j' n'
  by_cases z : kd = 16 ∧ j' = 0
  · by_cases y : i = j ∧ n' = n
    · rw [if_pos ⟨z.1, y.1, z.2, y.2⟩, if_pos z, if_pos y]
    · rw [if_neg (fun w => y ⟨w.2.1, w.2.2.2⟩), if_pos z, if_pos z, if_neg y]
  · rw [if_neg (fun w => z ⟨w.1, w.2.2.1⟩), if_neg z, if_neg z]
theorem ml_le (j : Nat) : ml j ≤ 2560 := by
  unfold ml
  split <;> decide
section MOD
variable {ad : Nat → Nat → Nat → Nat} {T : TT} {M : MM} {S : HS}
theorem m_ref (h : INV ad (TM T M) S) {j : Nat} (h2 : 2 ≤ j) (h19 : j < 19) : ok S (ad 15 0 0) 5 ∧ gR S (160 + j) (ad 15 0 0) = some (ad 16 j 0) ∧ ok S (ad 16 j 0) (if j = 14 then 7 else 6) ∧ gN S (ad 16 j 0) = ml j ∧ ∀ n, gA S (ad 16 j 0) n = M.2 j n := by
  refine ⟨h.ok vk15, h.2.1.2.2.2.2.2.2.2.1 j h2 h19, h.ok (vk16 h2 h19), h.n (vk16 h2 h19) (by decide), fun n => ?_⟩
  rw [h.A (vk16 h2 h19)]
  show (if (16 : Nat) = 16 ∧ (0 : Nat) = 0 then M.2 j n else tA T 16 j 0 n) = M.2 j n
  rw [if_pos ⟨rfl, rfl⟩]
theorem m_ok (h : INV ad (TM T M) S) : ok S (ad 15 0 0) 5 := h.ok vk15
theorem m_I (h : INV ad (TM T M) S) (c : Nat) : gI S c (ad 15 0 0) = M.1 c := by
  rw [h.I vk15]
  show (if (15 : Nat) = 15 ∧ (0 : Nat) = 0 ∧ (0 : Nat) = 0 then M.1 c else tF T 15 0 0 c) = M.1 c
  rw [if_pos ⟨rfl, rfl, rfl⟩]
theorem rq (j : Nat) (h : INV ad (TM T M) S) {x' : Int32} {x kd : Nat} (hx' : x' = nI x) (hx : x < ml j) {P : Prop} (k : P) (hj : 2 ≤ j ∧ j < 19 := by decide) (kk : (if j = 14 then 7 else 6) = kd := by decide) : ok S (ad 16 j 0) kd ∧ vp_in x' (gN S (ad 16 j 0)) ∧ P := by
  obtain ⟨h1, h2, h3, h4, -⟩ := m_ref h hj.1 hj.2
  have := ml_le j
  refine ⟨kk ▸ h3, ?_, k⟩
  rw [h4, hx']
  exact vp_in_nI hx (by omega)
theorem rd (j : Nat) (h : INV ad (TM T M) S) {x' : Int32} {x kd : Nat} (hx' : x' = nI x) (hx : x < ml j) {P : Nat → Prop} (k : P (ad 16 j 0)) (hj : 2 ≤ j ∧ j < 19 := by decide) (kk : (if j = 14 then 7 else 6) = kd := by decide) : ∀ o, o = gR S (160 + j) (ad 15 0 0) → ∃ q, o = some q ∧ (ok S q kd ∧ vp_in x' (gN S q) ∧ P q) :=
  fun _ ho => ⟨_, ho.trans (m_ref h hj.1 hj.2).2.1, rq j h hx' hx k hj kk⟩
theorem rf (j : Nat) (h : INV ad (TM T M) S) (hj : 2 ≤ j ∧ j < 19 := by decide) : gR S (160 + j) (ad 15 0 0) = some (ad 16 j 0) := (m_ref h hj.1 hj.2).2.1
theorem mv (j : Nat) (h : INV ad (TM T M) S) {x' : Int32} {x : Nat} (hx' : x' = nI x) (hx : x < ml j) (hj : 2 ≤ j ∧ j < 19 := by decide) : gA S (ad 16 j 0) x'.toNatClampNeg = M.2 j x := by
  have := ml_le j
  rw [hx', nI_clamp (by omega)]
  exact (m_ref h hj.1 hj.2).2.2.2.2 x
theorem ms (j : Nat) (h : INV ad (TM T M) S) {x' v : Int32} {x : Nat} {S' : HS} (hx' : x' = nI x) (hx : x < ml j) (e : S' = sA S (ad 16 j 0) x'.toNatClampNeg v) (hj : 2 ≤ j ∧ j < 19 := by decide) : INV ad (TM T (mA M j x v)) S' := by
  have := ml_le j
  rw [hx', nI_clamp (by omega)] at e
  rw [← TM_mA]
  exact inv_sAe h (vk16 hj.1 hj.2) e
theorem mi (h : INV ad (TM T M) S) {c : Nat} {v : Int32} {S' : HS} (e : S' = sI S c (ad 15 0 0) v) : INV ad (TM T (mF M c v)) S' := by
  rw [← TM_mF]
  exact inv_sIe h vk15 e
theorem sm_thrown (h : INV ad (TM T M) S) {Q : Int32 → HS → Prop} (k : Q (M.1 179) S) : wX5_thrown (ad 15 0 0) S Q := by
  refine ⟨m_ok h, ?_⟩
  rw [m_I h]
  exact k
theorem sm_f0 (h : INV ad (TM T M) S) {Q : Int32 → HS → Prop} (k : ∀ S', INV ad (TM T (mF M 179 0)) S' → Q 0 S') : wX5_fails (ad 15 0 0) 0 S Q :=
  ⟨m_ok h, fun S1 e => ⟨fun _ => k S1 (mi h e), fun z => absurd (by decide) z⟩⟩
theorem sm_f1 (h : INV ad (TM T M) S) {w : Int32} (hw : ¬ w ≤ 0) {Q : Int32 → HS → Prop} (k : ∀ S', INV ad (TM T (mF M 179 w)) S' → Q 1 S') : wX5_fails (ad 15 0 0) w S Q :=
  ⟨m_ok h, fun S1 e => ⟨fun z => absurd z hw, fun _ => k S1 (mi h e)⟩⟩
theorem sm_isIn {x lo hi : Int32} {Q : Int32 → HS → Prop} (k0 : ¬ (lo ≤ x ∧ x ≤ hi) → Q 0 S) (k1 : lo ≤ x ∧ x ≤ hi → Q 1 S) : wX5_isIn x lo hi S Q :=
  ⟨fun z => k0 (fun q => absurd z (Int32.not_lt.mpr q.1)), fun z => ⟨fun z1 => k0 (fun q => absurd z1 (Int32.not_lt.mpr q.2)), fun z1 => k1 ⟨Int32.not_lt.mp z, Int32.not_lt.mp z1⟩⟩⟩
theorem le_pred {n : Nat} {x : Int32} (hn : n < 2 ^ 30) : 0 ≤ x ∧ x ≤ nI n - 1 ↔ ∃ r, r < n ∧ x = nI r := by
  constructor
  · rintro ⟨a, b⟩
    obtain ⟨j, hj, rfl⟩ := nI_of (Int32.not_lt.mpr a)
    rcases Nat.eq_zero_or_pos n with e | e
    · subst e
      rw [show nI 0 - 1 = (-1 : Int32) from by decide] at b
      exact absurd (Int32.le_trans a b) (by decide)
    · rw [show nI n - 1 = nI (n - 1) from pk_sub (b := 1) e] at b
      exact ⟨j, by have := (nI_leI hj (by omega)).mp b; omega, rfl⟩
  · rintro ⟨r, a, rfl⟩
    rw [show nI n - 1 = nI (n - 1) from pk_sub (b := 1) (by omega)]
    exact ⟨nI_pos' (by omega), nI_le (by omega) (by omega)⟩
theorem sm_in0 {x : Int32} {n : Nat} {hi : Int32} (hn : n < 2 ^ 30) (hhi : hi = nI n - 1) {Q : Int32 → HS → Prop} (k0 : (¬ ∃ r, r < n ∧ x = nI r) → Q 0 S) (k1 : ∀ r, r < n → x = nI r → Q 1 S) : wX5_isIn x 0 hi S Q := by
  subst hhi
  exact sm_isIn (fun z => k0 (fun y => z ((le_pred hn).mpr y))) (fun z => by obtain ⟨r, a, b⟩ := (le_pred hn).mp z; exact k1 r a b)
theorem sm_isBanner (h : INV ad (TM T M) S) {x : Int32} {N : Nat} (hN : M.1 161 = nI N) (h5 : N ≤ 5) {Q : Int32 → HS → Prop} (k0 : (¬ ∃ b, b < N ∧ x = nI b) → Q 0 S) (k1 : ∀ b, b < N → x = nI b → Q 1 S) : wX5_isBanner (ad 15 0 0) x S Q := by
  refine ⟨m_ok h, sm_in0 (n := N) (by omega) (by rw [m_I h, hN]) (fun z => ⟨Or.inl rfl, k0 z⟩) (fun r a b => ⟨Or.inr rfl, k1 r a b⟩)⟩
theorem sm_isRow {x : Int32} {Q : Int32 → HS → Prop} (k0 : (¬ ∃ b, b < 8 ∧ x = nI b) → Q 0 S) (k1 : ∀ b, b < 8 → x = nI b → Q 1 S) : wX5_isRow x S Q :=
  sm_in0 (n := 8) (by omega) (by decide) (fun z => ⟨Or.inl rfl, k0 z⟩) (fun r a b => ⟨Or.inr rfl, k1 r a b⟩)
theorem sm_isPrinter {x : Int32} {Q : Int32 → HS → Prop} (k0 : (¬ ∃ b, b < 3 ∧ x = nI b) → Q 0 S) (k1 : ∀ b, b < 3 → x = nI b → Q 1 S) : wX5_isPrinter x S Q :=
  sm_in0 (n := 3) (by omega) (by decide) (fun z => ⟨Or.inl rfl, k0 z⟩) (fun r a b => ⟨Or.inr rfl, k1 r a b⟩)
/-- the measures of a banner: columns, width, overlap, how many strips -/
def GEO (M : MM) (b C W O N : Nat) : Prop := M.2 2 b = nI C ∧ M.2 3 b = nI W ∧ M.2 4 b = nI O ∧ 4 ≤ C ∧ C ≤ 32 ∧ 2 ≤ W ∧ W ≤ 12 ∧ 2 * O < W ∧ 1 ≤ N ∧ N ≤ 16 ∧ (∀ k, 0 < k → k < N → (k - 1) * (W - O) + W < C) ∧ C ≤ (N - 1) * (W - O) + W
def eN (C W O k : Nat) : Nat := if k * (W - O) + W < C then k * (W - O) + W else C
theorem kst {k W O : Nat} (hk : k ≤ 16) (hW : W ≤ 12) : k * (W - O) ≤ 192 := Nat.le_trans (Nat.mul_le_mul hk (show W - O ≤ 12 by omega)) (by decide)
theorem sm_first (h : INV ad (TM T M) S) {b C W O N k : Nat} {x : Int32} (g : GEO M b C W O N) (hb : b < 5) (hx : x = nI k) {Q : Int32 → HS → Prop} (kk : Q (nI (k * (W - O))) S) : wX5_first (ad 15 0 0) (nI b) x S Q := by
  obtain ⟨g1, g2, g3, g4, g5, g6, g7, g8, g9⟩ := g
  refine ⟨m_ok h, rd 3 h rfl hb ⟨m_ok h, rd 4 h rfl hb ?_⟩⟩
  rw [mv 3 h rfl hb, mv 4 h rfl hb, g2, g3, hx, pk_sub (by omega), pk_mul]
  exact kk
theorem sm_end (h : INV ad (TM T M) S) {b C W O N k : Nat} {x : Int32} (g : GEO M b C W O N) (hb : b < 5) (hk : k ≤ 16) (hx : x = nI k) {Q : Int32 → HS → Prop} (kk : Q (nI (eN C W O k)) S) : wX5_end (ad 15 0 0) (nI b) x S Q := by
  obtain ⟨g1, g2, g3, g4, g5, g6, g7, g8, g9⟩ := id g
  have k1 := kst (O := O) hk g7
  refine ⟨m_ok h, sm_first h g hb hx ⟨m_ok h, rd 3 h rfl hb ⟨m_ok h, rd 2 h rfl hb ⟨fun z => ⟨m_ok h, rd 2 h rfl hb ?_⟩, fun z => ?_⟩⟩⟩⟩
  · rw [mv 3 h rfl hb, mv 2 h rfl hb, g1, g2, nI_add, nI_leI (by omega) (by omega)] at z
    rw [mv 2 h rfl hb, g1]
    unfold eN at kk
    rw [if_neg (by omega)] at kk
    exact kk
  · rw [mv 3 h rfl hb, mv 2 h rfl hb, g1, g2, nI_add, nI_leI (by omega) (by omega)] at z
    rw [mv 3 h rfl hb, g2, nI_add]
    unfold eN at kk
    rw [if_pos (by omega)] at kk
    exact kk
theorem lp_strips (h : INV ad (TM T M) S) {b C W O N : Nat} (g : GEO M b C W O N) (hb : b < 5) {K : Int32 → HS → Prop} (kk : K (nI N) S) : ∀ (d i : Nat) (m : Int32), i + d = N → 0 < i → m = nI i → wX5_stripsOf_L2 (ad 15 0 0) (nI b) (d + 1) m S K := by
  obtain ⟨g1, g2, g3, g4, g5, g6, g7, g8, g9, g10, g11, g12⟩ := id g
  intro d
  induction d with
  | zero =>
    intro i m hi h0 hm
    subst hm
    obtain rfl : i = N := by omega
    have k1 := kst (O := O) (k := i - 1) (by omega) g7
    refine ⟨m_ok h, sm_end (k := i - 1) h g hb (by omega) (pk_sub (b := 1) (by omega)) ⟨m_ok h, rd 2 h rfl hb ⟨fun _ => kk, fun z => absurd ?_ z⟩⟩⟩
    rw [mv 2 h rfl hb, g1]
    unfold eN
    rw [if_neg (by omega)]
    exact nI_le (Nat.le_refl _) (by omega)
  | succ d ih =>
    intro i m hi h0 hm
    subst hm
    have k1 := kst (O := O) (k := i - 1) (by omega) g7
    have k2 := g11 i h0 (by omega)
    refine ⟨m_ok h, sm_end (k := i - 1) h g hb (by omega) (pk_sub (b := 1) (by omega)) ⟨m_ok h, rd 2 h rfl hb ⟨fun z => absurd z ?_, fun z => ih (i + 1) _ (by omega) (by omega) (nI_1 i)⟩⟩⟩
    rw [mv 2 h rfl hb, g1]
    unfold eN
    rw [if_pos k2]
    exact nI_ge k2 (by omega)
theorem sm_stripsOf (h : INV ad (TM T M) S) {b C W O N : Nat} (g : GEO M b C W O N) (hb : b < 5) {Q : Int32 → HS → Prop} (kk : Q (nI N) S) : wX5_stripsOf (ad 15 0 0) (nI b) S Q :=
  ⟨N, by
    have h1 : 1 ≤ N := g.2.2.2.2.2.2.2.2.1
    have := lp_strips h g hb (K := fun u1 S2 => Q u1 S2) kk (N - 1) 1 1 (by omega) (by omega) rfl
    rwa [show N - 1 + 1 = N from by omega] at this⟩
theorem sm_dot {b r c : Nat} {x : Int32} (hx : x = nI c) {Q : Int32 → HS → Prop} (k : Q (nI (256 * b + 32 * r + c)) S) : wX5_dot (nI b) (nI r) x S Q := by
  unfold wX5_dot
  rw [hx, lit 32, lit 8, pk_mul, nI_add, pk_mul, nI_add, show 32 * (8 * b + r) + c = 256 * b + 32 * r + c from by omega]
  exact k
theorem sm_has (h : INV ad (TM T M) S) {b C W O N c : Nat} {x : Int32} (g : GEO M b C W O N) (hb : b < 5) (hc : c < 2 ^ 20) {Q : Int32 → HS → Prop} (k0 : (¬ ∃ k, k < N ∧ x = nI k ∧ k * (W - O) ≤ c ∧ c < eN C W O k) → Q 0 S) (k1 : ∀ k, k < N → x = nI k → k * (W - O) ≤ c ∧ c < eN C W O k → Q 1 S) : wX5_has (ad 15 0 0) (nI b) x (nI c) S Q := by
  obtain ⟨g1, g2, g3, g4, g5, g6, g7, g8, g9, g10, g11, g12⟩ := id g
  refine ⟨m_ok h, sm_stripsOf h g hb (sm_in0 (n := N) (by omega) rfl (fun z => ⟨fun _ => k0 (fun ⟨k, a, e, _⟩ => z ⟨k, a, e⟩), fun z => absurd rfl z⟩) (fun k a e => ⟨fun z => absurd z (by decide), fun _ => ⟨m_ok h, sm_first h g hb e ⟨m_ok h, sm_end h g hb (by omega) e (sm_isIn (fun z => ⟨fun _ => k0 (fun ⟨k', a', e', c1, c2⟩ => z ?_), fun z => absurd rfl z⟩) (fun z => ⟨fun z => absurd z (by decide), fun _ => k1 k a e ?_⟩))⟩⟩⟩))⟩
  · have : k' = k := by rw [e] at e'; exact ((nI_eq (by omega) (by omega)).mp e').symm
    subst this
    have kk := kst (O := O) (k := k') (by omega) g7
    rw [show nI (eN C W O k') - 1 = nI (eN C W O k' - 1) from pk_sub (b := 1) (by omega)]
    have he : eN C W O k' ≤ 32 := by unfold eN; split <;> omega
    exact ⟨nI_le c1 (by omega), nI_le (by omega) (by omega)⟩
  · have kk := kst (O := O) (k := k) (by omega) g7
    have he : eN C W O k ≤ 32 ∧ 2 ≤ eN C W O k := by unfold eN; split <;> omega
    rw [show nI (eN C W O k) - 1 = nI (eN C W O k - 1) from pk_sub (b := 1) (by omega)] at z
    have z1 := (nI_leI (by omega) (by omega)).mp z.1
    have z2 := (nI_leI (by omega) (by omega)).mp z.2
    exact ⟨z1, by omega⟩
end MOD
