/-! A tick: which strip an idle printer takes, and what then is -/
theorem acc_add (f : Nat → Int32) : ∀ (d i : Nat) (a b : Int32), acc f d i (a + b) = a + acc f d i b := by
  intro d
  induction d with
  | zero => intros; rfl
  | succ d ih => intro i a b; rw [acc, acc, Int32.add_assoc, ih]
theorem acc_cnt {g : Nat → Int32} {v : Int32} : ∀ (d i n : Nat), ∃ m, acc (fun k => if g k = v then 1 else 0) d i (nI n) = nI (n + m) ∧ m ≤ d ∧ (m = 0 ↔ ∀ k, i ≤ k → k < i + d → ¬ g k = v) := by
  intro d
  induction d with
  | zero => intro i n; exact ⟨0, rfl, Nat.le_refl _, ⟨fun _ k h1 h2 => absurd h2 (by omega), fun _ => rfl⟩⟩
  | succ d ih =>
    intro i n
    by_cases q : g i = v
    · obtain ⟨m, h1, h2, h3⟩ := ih (i + 1) (n + 1)
      refine ⟨m + 1, ?_, by omega, ⟨fun z => absurd z (by omega), fun z => absurd q (z i (Nat.le_refl _) (by omega))⟩⟩
      rw [acc, if_pos q, nI_1, h1, show n + 1 + m = n + (m + 1) from by omega]
    · obtain ⟨m, h1, h2, h3⟩ := ih (i + 1) n
      refine ⟨m, ?_, by omega, ⟨fun z k k1 k2 => ?_, fun z => h3.mpr (fun k k1 k2 => z k (by omega) (by omega))⟩⟩
      · rw [acc, if_neg q, Int32.add_zero, h1]
      · rcases Nat.eq_or_lt_of_le k1 with e | e
        · rw [← e]; exact q
        · exact h3.mp z k (by omega) (by omega)
theorem acc_upd {f g : Nat → Int32} {q : Nat} (h : ∀ k, k ≠ q → f k = g k) : ∀ (d i : Nat) (a : Int32), i ≤ q → q < i + d → acc f d i a = acc g d i a + (f q - g q) := by
  intro d
  induction d with
  | zero => intro i a h1 h2; omega
  | succ d ih =>
    intro i a h1 h2
    rcases Nat.eq_or_lt_of_le h1 with e | e
    · subst e
      rw [acc, acc, acc_congr (f := f) (g := g) d (i + 1) (a + f i) (fun j k1 k2 => h j (by omega)), show a + f i = (f i - g i) + (a + g i) from by grind, acc_add, Int32.add_comm]
    · rw [acc, acc, h i (by omega)]
      exact ih (i + 1) _ (by omega) (by omega)
theorem mtL_add {M : MM} {p : Nat} : ∀ (a b k : Nat) (e : Option Nat), mtL M p (a + b) k e = mtL M p b (k + a) (mtL M p a k e) := by
  intro a
  induction a with
  | zero => intro b k e; rw [Nat.zero_add]; rfl
  | succ a ih => intro b k e; rw [Nat.succ_add, mtL, mtL, ih, show k + 1 + a = k + (a + 1) from by omega]
theorem mt_no {M : MM} {p : Nat} : ∀ (d k : Nat) (e : Option Nat), (∀ j, k ≤ j → j < k + d → ¬ (M.2 9 j = nI p ∧ mbet M j e = true)) → mtL M p d k e = e := by
  intro d
  induction d with
  | zero => intros; rfl
  | succ d ih =>
    intro k e h
    rw [mtL, show mt1 M p k e = e from if_neg (h k (Nat.le_refl _) (by omega))]
    exact ih _ _ (fun j h1 h2 => h j (by omega) (by omega))
def enc (e : Option (Nat × Nat)) : Option Nat := e.map (fun q => 16 * q.1 + q.2)
theorem mbet_b {M : MM} {b i j : Nat} {e : Option Nat} (hi : i < 16) (hj : j < 16) : mbet M (16 * b + i) e = mbet M (16 * b + j) e := by
  cases e with
  | none => rfl
  | some q =>
    unfold mbet
    rw [show (16 * b + i) / 16 = (16 * b + j) / 16 from by omega]
theorem mt_blk {M : MM} {p b : Nat} {P : Nat → Bool} (hP : ∀ k, k < 16 → (P k = true ↔ M.2 9 (16 * b + k) = nI p)) {e : Option Nat} (he : mbet M (16 * b) e = true) : ∀ (d i : Nat), i + d = 16 → mtL M p d (16 * b + i) e = match fwn P d i with | none => e | some k => some (16 * b + k) := by
  intro d
  induction d with
  | zero => intros; rfl
  | succ d ih =>
    intro i hi
    by_cases q : P i = true
    · have m1 : mt1 M p (16 * b + i) e = some (16 * b + i) := by
        unfold mt1
        rw [if_pos ⟨(hP i (by omega)).mp q, (mbet_b (j := 0) (by omega) (by omega)).trans he⟩]
      rw [mtL, fwn, if_pos q, m1]
      refine mt_no _ _ _ (fun j h1 h2 z => ?_)
      have : M.2 6 (j / 16) < M.2 6 ((16 * b + i) / 16) := of_decide_eq_true z.2
      rw [show j / 16 = (16 * b + i) / 16 from by omega] at this
      exact absurd this Int32.lt_irrefl
    · have m1 : mt1 M p (16 * b + i) e = e := by
        unfold mt1
        rw [if_neg (fun y => q ((hP i (by omega)).mpr y.1))]
      rw [mtL, fwn, if_neg q, m1, show 16 * b + i + 1 = 16 * b + (i + 1) from by omega]
      exact ih (i + 1) (by omega)
theorem bet_eq {T : TT} {M : MM} {b : Nat} {e : Option (Nat × Nat)} (h : RR T M) (hb : b < tN T) (he : ∀ q, e = some q → q.1 < tN T ∧ q.2 < tS T q.1) : mbet M (16 * b) (enc e) = bet T b e := by
  cases e with
  | none => rfl
  | some a =>
    obtain ⟨a1, a2⟩ := he a rfl
    have n16 : tS T a.1 ≤ 16 := (h.2.1 a.1 a1).1.2.2.2.2.2.2.2.2.2.1
    show decide (M.2 6 (16 * b / 16) < M.2 6 ((16 * a.1 + a.2) / 16)) = decide (tF T 6 b 0 2 < tF T 6 a.1 0 2)
    rw [show 16 * b / 16 = b from by omega, show (16 * a.1 + a.2) / 16 = a.1 from by omega, (h.2.1 b hb).2.2.2.1, (h.2.1 a.1 a1).2.2.2.1]
theorem q_out {T : TT} {M : MM} {n p : Nat} (h : RR T M) (hn : n < 80) (hp : p < 3) (e : M.2 9 n = nI p) : n / 16 < tN T ∧ n % 16 < tS T (n / 16) := by
  by_cases z : n / 16 < tN T ∧ n % 16 < tS T (n / 16)
  · exact z
  · have := (h.2.2.2.2.2.2.2.2.1 n hn z).1
    rw [this] at e
    exact absurd e.symm (one_pos (by omega))
theorem lock_tk1 {T : TT} {M : MM} {p b : Nat} {e : Option (Nat × Nat)} (h : RR T M) (hp : p < 3) (hb5 : b < 5) (he : ∀ q, e = some q → q.1 < tN T ∧ q.2 < tS T q.1) : mtL M p 16 (16 * b) (enc e) = enc (tk1 T p b e) := by
  unfold tk1
  by_cases hb : b < tN T
  · have n16 : tS T b ≤ 16 := (h.2.1 b hb).1.2.2.2.2.2.2.2.2.2.1
    have bq := bet_eq h hb he
    by_cases z : bet T b e = true
    · rw [if_pos ⟨hb, z⟩]
      have hP : ∀ k, k < 16 → ((fun k => decide (k < tS T b ∧ tF T 12 b k 102 = nI p)) k = true ↔ M.2 9 (16 * b + k) = nI p) := by
        intro k hk
        constructor
        · intro y
          obtain ⟨y1, y2⟩ := of_decide_eq_true y
          rw [← (h.2.2.2.2.1 b k hb y1).1]; exact y2
        · intro y
          have := q_out h (n := 16 * b + k) (by omega) hp y
          have e1 : (16 * b + k) / 16 = b := by omega
          have e2 : (16 * b + k) % 16 = k := by omega
          rw [e1, e2] at this
          exact decide_eq_true ⟨this.2, (h.2.2.2.2.1 b k hb this.2).1.trans y⟩
      have := mt_blk hP (bq.trans z) 16 0 rfl
      rw [show 16 * b + 0 = 16 * b from rfl] at this
      rw [this]
      cases fwn (fun k => decide (k < tS T b ∧ tF T 12 b k 102 = nI p)) 16 0 with
      | none => rfl
      | some k => rfl
    · rw [if_neg (fun y => z y.2)]
      refine mt_no _ _ _ (fun j h1 h2 y => z ?_)
      rw [← bq, ← y.2]
      have : j = 16 * b + (j - 16 * b) := by omega
      rw [this]
      exact mbet_b (i := 0) (by omega) (by omega)
  · rw [if_neg (fun y => hb y.1)]
    refine mt_no _ _ _ (fun j h1 h2 y => hb ?_)
    have := (q_out h (n := j) (by omega) hp y.1).1
    omega
theorem lock_tkL {T : TT} {M : MM} {p : Nat} (h : RR T M) (hp : p < 3) : ∀ (d b : Nat) (e : Option (Nat × Nat)), b + d = 5 → (∀ q, e = some q → q.1 < tN T ∧ q.2 < tS T q.1) → mtL M p (16 * d) (16 * b) (enc e) = enc (tkL T p d b e) ∧ ∀ q, tkL T p d b e = some q → q.1 < tN T ∧ q.2 < tS T q.1 := by
  intro d
  induction d with
  | zero => intro b e hb he; exact ⟨rfl, he⟩
  | succ d ih =>
    intro b e hb he
    rw [show 16 * (d + 1) = 16 + 16 * d from by omega, mtL_add, lock_tk1 h hp (by omega) he, tkL, show 16 * b + 16 = 16 * (b + 1) from by omega]
    exact ih (b + 1) _ (by omega) (tk1_ok he)
theorem lock_start {T : TT} {M : MM} {p b k : Nat} (h : RR T M) (hp3 : p < 3) (hT : tP T p = none) (b2 : b < tN T) (b3 : k < tS T b) (hq9 : M.2 9 (16 * b + k) = nI p) : RR (ustart T p b k) (mtk M p (16 * b + k)) ∧ (RRt T → RRt (ustart T p b k)) := by
  obtain ⟨h0, hs, hd, hl, hk, hp, hq, hw, ho, hn⟩ := h
  have n5 := h0.2.2.2
  have n16 : ∀ b', b' < tN T → tS T b' ≤ 16 := fun b' hb' => (hs b' hb').1.2.2.2.2.2.2.2.2.2.1
  have l2 := n16 b b2
  have fe := geo_fe (hs b b2).1 b3
  have w12 := (hs b b2).1.2.2.2.2.2.2.1
  have f4 : (16 * b + k) / 16 = b := by omega
  have f5 : (16 * b + k) % 16 = k := by omega
  have y1 : ∀ kd i j z, ¬ (kd = 12 ∧ i = b ∧ j = k ∧ (z = 102 ∨ z = 103)) → ¬ (kd = 3 ∧ i = p ∧ j = 0 ∧ (z = 69 ∨ z = 72 ∨ z = 73)) → tF (ustart T p b k) kd i j z = tF T kd i j z := by
    intro kd i j z h1 h2
    unfold ustart
    rw [tF_uF, if_neg (fun y => h2 ⟨y.1, y.2.1, y.2.2.1, Or.inr (Or.inr y.2.2.2)⟩), tF_uF, if_neg (fun y => h2 ⟨y.1, y.2.1, y.2.2.1, Or.inr (Or.inl y.2.2.2)⟩), tF_uP, tF_uB, tF_uF, if_neg (fun y => h2 ⟨y.1, y.2.1, y.2.2.1, Or.inl y.2.2.2⟩), tF_uF, if_neg (fun y => h1 ⟨y.1, y.2.1, y.2.2.1, Or.inr y.2.2.2⟩), tF_uF, if_neg (fun y => h1 ⟨y.1, y.2.1, y.2.2.1, Or.inl y.2.2.2⟩)]
  have x102 : tF (ustart T p b k) 12 b k 102 = -1 := by
    unfold ustart
    rw [tF_uF, if_neg (fun y => absurd y.1 (by decide)), tF_uF, if_neg (fun y => absurd y.1 (by decide)), tF_uP, tF_uB, tF_uF, if_neg (fun y => absurd y.1 (by decide)), tF_uF, if_neg (fun y => absurd y.2.2.2 (by decide)), tF_uF, if_pos ⟨rfl, rfl, rfl, rfl⟩]
  have x103 : tF (ustart T p b k) 12 b k 103 = 1 := by
    unfold ustart
    rw [tF_uF, if_neg (fun y => absurd y.1 (by decide)), tF_uF, if_neg (fun y => absurd y.1 (by decide)), tF_uP, tF_uB, tF_uF, if_neg (fun y => absurd y.1 (by decide)), tF_uF, if_pos ⟨rfl, rfl, rfl, rfl⟩]
  have x69 : tF (ustart T p b k) 3 p 0 69 = tF T 3 p 0 69 - 1 := by
    unfold ustart
    rw [tF_uF, if_neg (fun y => absurd y.2.2.2 (by decide)), tF_uF, if_neg (fun y => absurd y.2.2.2 (by decide)), tF_uP, tF_uB, tF_uF, if_pos ⟨rfl, rfl, rfl, rfl⟩]
  have x72 : tF (ustart T p b k) 3 p 0 72 = nI b := by
    unfold ustart
    rw [tF_uF, if_neg (fun y => absurd y.2.2.2 (by decide)), tF_uF, if_pos ⟨rfl, rfl, rfl, rfl⟩]
  have x73 : tF (ustart T p b k) 3 p 0 73 = nI (eN (gC M b) (gW M b) (gO M b) k - k * (gW M b - gO M b)) := by
    unfold ustart
    rw [tF_uF, if_pos ⟨rfl, rfl, rfl, rfl⟩, ((hs b b2).2.2.2.2.2 k b3).2.1, ((hs b b2).2.2.2.2.2 k b3).2.2.1]
    exact pk_sub (by omega)
  have y2 : ∀ j n, ¬ (j = 9 ∧ n = 16 * b + k) → ¬ (j = 16 ∧ n = p) → ¬ (j = 17 ∧ n = p) → (mtk M p (16 * b + k)).2 j n = M.2 j n := by
    intro j n h1 h2 h3
    unfold mtk
    rw [mA_2, if_neg h3, mA_2, if_neg h2, mA_2, if_neg h1]
  have z9 : (mtk M p (16 * b + k)).2 9 (16 * b + k) = -1 := by
    unfold mtk
    rw [mA_2, if_neg (fun y => absurd y.1 (by decide)), mA_2, if_neg (fun y => absurd y.1 (by decide)), mA_2, if_pos ⟨rfl, rfl⟩]
  have z16 : (mtk M p (16 * b + k)).2 16 p = nI (16 * b + k) := by
    unfold mtk
    rw [mA_2, if_neg (fun y => absurd y.1 (by decide)), mA_2, if_pos ⟨rfl, rfl⟩]
  have z17 : (mtk M p (16 * b + k)).2 17 p = nI (eN (gC M b) (gW M b) (gO M b) k - k * (gW M b - gO M b)) := by
    unfold mtk
    rw [mA_2, if_pos ⟨rfl, rfl⟩, f4, f5]
    exact pk_sub (by omega)
  have yP : ∀ p', tP (ustart T p b k) p' = if p' = p then some (b, k) else tP T p' := fun p' => rfl
  have yB : ∀ p', tB (ustart T p b k) p' = if p' = p then some b else tB T p' := fun p' => rfl
  have s : Sm T M (ustart T p b k) (mtk M p (16 * b + k)) := ⟨rfl, rfl, fun b' c hc => y1 _ _ _ _ (fun y => absurd y.1 (by decide)) (fun y => absurd y.1 (by decide)), fun b' k' c h1 h2 => y1 _ _ _ _ (fun y => by omega) (fun y => absurd y.1 (by decide)), fun j n a1 a2 => y2 _ _ (fun y => by omega) (fun y => by omega) (fun y => by omega)⟩
  have n9 : ¬ M.2 9 (16 * b + k) = -1 := by rw [hq9]; exact one_pos (by omega)
  refine ⟨⟨?_, RRs_e s hs, fun b' hb' => ?_, fun b' k' r c hb' hk' hr hc => ?_, fun b' k' hb' hk' => ?_, fun p' hp' => ?_, fun p' hp' => ?_, fun p' hp' => ?_, fun n a1 a2 => ?_, fun b' h1 h2 => ?_⟩, fun ht p' hp' hne => ?_⟩
  · unfold RR0
    rw [y1 0 0 0 130 (fun y => absurd y.1 (by decide)) (fun y => absurd y.1 (by decide)), y1 0 0 0 131 (fun y => absurd y.1 (by decide)) (fun y => absurd y.1 (by decide))]
    exact h0
  · rw [y1 6 b' 0 7 (fun y => absurd y.1 (by decide)) (fun y => absurd y.1 (by decide)), y2 11 b' (fun y => absurd y.1 (by decide)) (fun y => absurd y.1 (by decide)) (fun y => absurd y.1 (by decide))]
    exact hd b' hb'
  · exact hl b' k' r c hb' hk' hr ((inr_e s b' k' c).mp hc)
  · have hb2 : b' < tN T := hb'
    have hk2 : k' < tS T b' := hk'
    have l1 := n16 b' hb2
    obtain ⟨a1, a2, a3, a4⟩ := hk b' k' hb2 hk2
    rw [y1 12 b' k' 104 (fun y => by omega) (fun y => absurd y.1 (by decide)), y2 10 (16 * b' + k') (fun y => absurd y.1 (by decide)) (fun y => absurd y.1 (by decide)) (fun y => absurd y.1 (by decide))]
    by_cases z : b' = b ∧ k' = k
    · obtain ⟨rfl, rfl⟩ := z
      rw [x102, z9, x103]
      have np : ∀ p', p' < 3 → ¬ tP T p' = some (b', k') := fun p' hp' y => n9 (a4 p' hp' y).1
      refine ⟨rfl, a2, ⟨fun y => absurd y (by decide), fun y => absurd ?_ (y p hp3)⟩, fun p' hp' e => ⟨rfl, fun p'' hp'' e2 => ?_⟩⟩
      · rw [yP, if_pos rfl]
      · rw [yP] at e e2
        have q1 : p' = p := by
          by_cases z2 : p' = p
          · exact z2
          · rw [if_neg z2] at e; exact absurd e (np p' hp')
        have q2 : p'' = p := by
          by_cases z2 : p'' = p
          · exact z2
          · rw [if_neg z2] at e2; exact absurd e2 (np p'' hp'')
        rw [q1, q2]
    · have zp : ∀ p', (if p' = p then some (b, k) else tP T p') = some (b', k') ↔ tP T p' = some (b', k') := by
        intro p'
        by_cases z2 : p' = p
        · rw [if_pos z2, z2, hT]
          exact ⟨fun y => (by cases y; exact absurd ⟨rfl, rfl⟩ z), fun y => (by cases y)⟩
        · rw [if_neg z2]
      rw [y1 12 b' k' 102 (fun y => z ⟨y.2.1, y.2.2.1⟩) (fun y => absurd y.1 (by decide)), y1 12 b' k' 103 (fun y => z ⟨y.2.1, y.2.2.1⟩) (fun y => absurd y.1 (by decide)), y2 9 (16 * b' + k') (fun y => z (by omega)) (fun y => absurd y.1 (by decide)) (fun y => absurd y.1 (by decide))]
      refine ⟨a1, a2, ⟨fun e p' hp' y => ?_, fun e => a3.mpr (fun p' hp' y => e p' hp' ?_)⟩, fun p' hp' e => ?_⟩
      · rw [yP, zp] at y
        exact a3.mp e p' hp' y
      · rw [yP, zp]; exact y
      · rw [yP, zp] at e
        refine ⟨(a4 p' hp' e).1, fun p2 hp2 e2 => ?_⟩
        rw [yP, zp] at e2
        exact (a4 p' hp' e).2 p2 hp2 e2
  · have := hp p' hp'
    rw [y1 3 p' 0 64 (fun y => absurd y.1 (by decide)) (fun y => by omega), y1 3 p' 0 65 (fun y => absurd y.1 (by decide)) (fun y => by omega), y1 3 p' 0 68 (fun y => absurd y.1 (by decide)) (fun y => by omega), y2 12 p' (fun y => absurd y.1 (by decide)) (fun y => absurd y.1 (by decide)) (fun y => absurd y.1 (by decide)), y2 13 p' (fun y => absurd y.1 (by decide)) (fun y => absurd y.1 (by decide)) (fun y => absurd y.1 (by decide)), y2 15 p' (fun y => absurd y.1 (by decide)) (fun y => absurd y.1 (by decide)) (fun y => absurd y.1 (by decide))]
    exact this
  · rw [yP, yB]
    by_cases z : p' = p
    · subst z
      rw [if_pos rfl, if_pos rfl, z16, x72, x73, z17]
      refine ⟨fun y => (by cases y), fun q' y => ?_⟩
      cases y
      exact ⟨rfl, b2, b3, rfl, rfl, _, by omega, rfl, rfl⟩
    · rw [if_neg z, if_neg z, y1 3 p' 0 72 (fun y => absurd y.1 (by decide)) (fun y => z y.2.1), y1 3 p' 0 73 (fun y => absurd y.1 (by decide)) (fun y => z y.2.1), y2 16 p' (fun y => absurd y.1 (by decide)) (fun y => z y.2) (fun y => absurd y.1 (by decide)), y2 17 p' (fun y => absurd y.1 (by decide)) (fun y => absurd y.1 (by decide)) (fun y => z y.2)]
      exact hq p' hp'
  · have au := acc_upd (f := fun n => if (mtk M p (16 * b + k)).2 9 n = nI p' then 1 else 0) (g := fun n => if M.2 9 n = nI p' then 1 else 0) (q := 16 * b + k) (fun n hn' => by
      show (if (mtk M p (16 * b + k)).2 9 n = nI p' then (1 : Int32) else 0) = if M.2 9 n = nI p' then 1 else 0
      rw [y2 9 n (fun y => hn' y.2) (fun y => absurd y.1 (by decide)) (fun y => absurd y.1 (by decide))]) 80 0 0 (by omega) (by omega)
    rw [au, ← hw p' hp']
    rw [z9, if_neg (fun y => one_pos (by omega) y.symm), hq9]
    by_cases z : p' = p
    · subst z
      rw [if_pos rfl, x69, Int32.zero_sub, Int32.sub_eq_add_neg]
    · rw [if_neg (fun y => z ((nI_eq (by omega) (by omega)).mp y).symm), y1 3 p' 0 69 (fun y => absurd y.1 (by decide)) (fun y => z y.2.1)]
      exact (Int32.add_zero _).symm
  · have a2' : ¬ (n / 16 < tN T ∧ n % 16 < tS T (n / 16)) := a2
    rw [y2 9 n (fun y => ?_) (fun y => absurd y.1 (by decide)) (fun y => absurd y.1 (by decide)), y2 10 n (fun y => absurd y.1 (by decide)) (fun y => absurd y.1 (by decide)) (fun y => absurd y.1 (by decide))]
    · exact ho n a1 a2'
    · have e1 : n / 16 = b := by omega
      have e2 : n % 16 = k := by omega
      rw [e1, e2] at a2'
      exact a2' ⟨b2, b3⟩
  · obtain ⟨m1, m2⟩ := hn b' h1 h2
    rw [y2 11 b' (fun y => absurd y.1 (by decide)) (fun y => absurd y.1 (by decide)) (fun y => absurd y.1 (by decide))]
    refine ⟨m1, fun n hn' => ?_⟩
    rw [y2 7 _ (fun y => absurd y.1 (by decide)) (fun y => absurd y.1 (by decide)) (fun y => absurd y.1 (by decide)), y2 8 _ (fun y => absurd y.1 (by decide)) (fun y => absurd y.1 (by decide)) (fun y => absurd y.1 (by decide)), y2 8 _ (fun y => absurd y.1 (by decide)) (fun y => absurd y.1 (by decide)) (fun y => absurd y.1 (by decide))]
    exact m2 n hn'
  · by_cases z : p' = p
    · subst z
      rw [x73]
      exact nI_ne0 (by omega) (by omega)
    · rw [y1 3 p' 0 73 (fun y => absurd y.1 (by decide)) (fun y => z y.2.1)]
      rw [yP, if_neg z] at hne
      exact ht p' hp' hne
theorem lock_st1 {T : TT} {M : MM} {p : Nat} (h : RR T M) (ht : RRt T) (hp3 : p < 3) : RR (ust1 T p) (mst1 M p) ∧ RRt (ust1 T p) ∧ tS (ust1 T p) = tS T ∧ gM (ust1 T p) = gM T := by
  obtain ⟨q1, q2⟩ := h.2.2.2.2.2.2.1 p hp3
  cases w : tP T p with
  | some q =>
    obtain ⟨b1, b2, b3, b4, -⟩ := q2 q w
    have e1 : ust1 T p = T := by unfold ust1; rw [if_neg (fun y => by rw [w] at y; cases y.1)]
    have n16 : tS T q.1 ≤ 16 := (h.2.1 q.1 b2).1.2.2.2.2.2.2.2.2.2.1
    have e2 : mst1 M p = M := by unfold mst1; rw [if_neg (by rw [b4]; exact one_pos (by have := h.1.2.2.2; omega))]
    rw [e1, e2]
    exact ⟨h, ht, rfl, rfl⟩
  | none =>
    have e2 : mst1 M p = mtake M p := by unfold mst1; rw [if_pos (q1 w).2]
    rw [e2]
    have hw := h.2.2.2.2.2.2.2.1 p hp3
    obtain ⟨m, m1, m2, m3⟩ := acc_cnt (g := fun k => M.2 9 k) (v := nI p) 80 0 0
    rw [nI_0, Nat.zero_add] at m1
    have hwm : tF T 3 p 0 69 = nI m := hw.trans m1
    unfold mtake
    by_cases z : tF T 3 p 0 69 ≤ 0
    · have e1 : ust1 T p = T := by unfold ust1; rw [if_neg (fun y => y.2 z)]
      have m0 : m = 0 := by
        rcases Nat.eq_zero_or_pos m with y | y
        · exact y
        · rw [hwm] at z; exact absurd z (nI_nle y (by omega))
      have em : mtL M p 80 0 none = none := by
        cases c : mtL M p 80 0 none with
        | none => rfl
        | some q =>
          obtain ⟨a1, a2⟩ := mtL_ok 80 0 none (fun q z => (by cases z)) q c
          exact absurd a2 (m3.mp m0 q (by omega) (by omega))
      rw [e1, em]
      exact ⟨h, ht, rfl, rfl⟩
    · have e1 : ust1 T p = utake T p := by unfold ust1; rw [if_pos ⟨w, z⟩]
      rw [e1]
      obtain ⟨k1, k2⟩ := lock_tkL h hp3 5 0 none rfl (fun q z => (by cases z))
      have k1' : mtL M p 80 0 none = enc (tkL T p 5 0 none) := k1
      unfold utake
      rw [k1']
      cases c : tkL T p 5 0 none with
      | none => exact ⟨h, ht, rfl, rfl⟩
      | some q =>
        obtain ⟨a1, a2⟩ := k2 q c
        have a3 : M.2 9 (16 * q.1 + q.2) = nI p := (mtL_ok 80 0 none (fun q z => (by cases z)) (16 * q.1 + q.2) (by rw [k1', c]; rfl)).2
        obtain ⟨s1, s2⟩ := lock_start h hp3 w a1 a2 a3
        exact ⟨s1, s2 ht, rfl, rfl⟩
theorem lock_stL : ∀ (d p : Nat) (T : TT) (M : MM), RR T M → RRt T → p + d = 3 → RR (ustL d p T) (mstL d p M) ∧ RRt (ustL d p T) ∧ tS (ustL d p T) = tS T ∧ gM (ustL d p T) = gM T := by
  intro d
  induction d with
  | zero => intro p T M h ht _; exact ⟨h, ht, rfl, rfl⟩
  | succ d ih =>
    intro p T M h ht hp
    obtain ⟨a1, a2, a3, a4⟩ := lock_st1 (p := p) h ht (by omega)
    obtain ⟨b1, b2, b3, b4⟩ := ih (p + 1) _ _ a1 a2 (by omega)
    exact ⟨b1, b2, b3.trans a3, b4.trans a4⟩
