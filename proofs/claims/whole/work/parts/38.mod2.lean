/-- what of a level a strip lays in a column, by the measures -/
def shr (C W O N k : Nat) (lv : Int32) (c : Nat) : Int32 :=
  if k * (W - O) ≤ c ∧ c < eN C W O k then
    (if k + 1 < N ∧ (k + 1) * (W - O) ≤ c ∧ c < eN C W O (k + 1) then (lv + 1) / 2
     else if 0 < k ∧ (k - 1) * (W - O) ≤ c ∧ c < eN C W O (k - 1) then lv / 2 else lv)
  else 0
def mw (M : MM) (p r : Nat) (v : Int32) : MM := mA M 18 r (if 15 < v * M.2 13 p / 100 then 15 else v * M.2 13 p / 100)
def mnoz (M : MM) (p r : Nat) : Int32 := noz (fun n => M.2 14 (8 * p + n)) (fun n => M.2 18 n) (M.2 12 p) r
def mlaid (M : MM) (n : Nat) : Int32 := M.2 8 n + M.2 8 (1280 + n)
def mink (M : MM) (b n : Nat) : Int32 := if M.2 5 b < mlaid M n then M.2 5 b else mlaid M n
def merr (M : MM) (b n : Nat) : Int32 := if 0 ≤ mink M b n - M.2 7 n then mink M b n - M.2 7 n else 0 - (mink M b n - M.2 7 n)
theorem one_pos {k : Nat} (hk : k < 2 ^ 31) : ¬ (nI k = -1) := fun e => absurd (nI_pos' hk) (by rw [e]; decide)
section MOD2
variable {ad : Nat → Nat → Nat → Nat} {T : TT} {M : MM} {S : HS}
theorem sm_isStrip (h : INV ad (TM T M) S) {x y : Int32} {Nb : Nat} (hN : M.1 161 = nI Nb) (h5 : Nb ≤ 5) {ss : Nat → Nat} (g : ∀ b, b < Nb → ∃ C W O, GEO M b C W O (ss b)) {Q : Int32 → HS → Prop} (k0 : (¬ ∃ b k, b < Nb ∧ k < ss b ∧ x = nI b ∧ y = nI k) → Q 0 S) (k1 : ∀ b k, b < Nb → k < ss b → x = nI b → y = nI k → Q 1 S) : wX5_isStrip (ad 15 0 0) x y S Q := by
  refine ⟨m_ok h, sm_isBanner h hN h5 (fun z => ⟨fun _ => k0 (fun ⟨b, k, a1, _, a3, _⟩ => z ⟨b, a1, a3⟩), fun z => absurd rfl z⟩) (fun b hb hx => ⟨fun z => absurd z (by decide), fun _ => ⟨m_ok h, ?_⟩⟩)⟩
  obtain ⟨C, W, O, gb⟩ := g b hb
  have n16 := gb.2.2.2.2.2.2.2.2.2.1
  rw [hx]
  refine sm_stripsOf h gb (by omega) (sm_in0 (n := ss b) (by omega) rfl (fun z => ⟨fun _ => k0 (fun ⟨b', k, a1, a2, a3, a4⟩ => z ?_), fun z => absurd rfl z⟩) (fun k hk hy => ⟨fun z => absurd z (by decide), fun _ => k1 b k hb hk hx hy⟩))
  have : b' = b := by rw [hx] at a3; exact ((nI_eq (by omega) (by omega)).mp a3).symm
  subst this
  exact ⟨k, a2, a4⟩
theorem sm_isDot (h : INV ad (TM T M) S) {x y z : Int32} {Nb : Nat} (hN : M.1 161 = nI Nb) (h5 : Nb ≤ 5) {cc : Nat → Nat} (g : ∀ b, b < Nb → M.2 2 b = nI (cc b) ∧ cc b ≤ 32) {Q : Int32 → HS → Prop} (k0 : (¬ ∃ b r c, b < Nb ∧ r < 8 ∧ c < cc b ∧ x = nI b ∧ y = nI r ∧ z = nI c) → Q 0 S) (k1 : ∀ b r c, b < Nb → r < 8 → c < cc b → x = nI b → y = nI r → z = nI c → Q 1 S) : wX5_isDot (ad 15 0 0) x y z S Q := by
  refine ⟨m_ok h, sm_isBanner h hN h5 (fun w => ⟨fun _ => k0 (fun ⟨b, r, c, a1, a2, a3, a4, a5, a6⟩ => w ⟨b, a1, a4⟩), fun w => absurd rfl w⟩) (fun b hb hx => ⟨fun w => absurd w (by decide), fun _ => sm_isRow (fun w => ⟨fun _ => k0 (fun ⟨b, r, c, a1, a2, a3, a4, a5, a6⟩ => w ⟨r, a2, a5⟩), fun w => absurd rfl w⟩) (fun r hr hy => ⟨fun w => absurd w (by decide), fun _ => ⟨m_ok h, ?_⟩⟩)⟩)⟩
  obtain ⟨g1, g2⟩ := g b hb
  rw [hx]
  refine rd 2 h rfl (by show b < 5; omega) ?_
  refine sm_in0 (n := cc b) (by omega) (by rw [mv 2 h rfl (by show b < 5; omega), g1]) (fun w => ⟨fun _ => k0 (fun ⟨b', r', c, a1, a2, a3, a4, a5, a6⟩ => w ?_), fun w => absurd rfl w⟩) (fun c hc hz => ⟨fun w => absurd w (by decide), fun _ => k1 b r c hb hr hc hx hy hz⟩)
  have : b' = b := by rw [hx] at a4; exact ((nI_eq (by omega) (by omega)).mp a4).symm
  subst this
  exact ⟨c, a3, a6⟩
theorem sm_hasN (h : INV ad (TM T M) S) {b C W O N c k : Nat} {x : Int32} (g : GEO M b C W O N) (hb : b < 5) (hc : c < 2 ^ 20) (hk : k < 2 ^ 20) (hx : x = nI k) {Q : Int32 → HS → Prop} (k0 : ¬ (k < N ∧ k * (W - O) ≤ c ∧ c < eN C W O k) → Q 0 S) (k1 : k < N ∧ k * (W - O) ≤ c ∧ c < eN C W O k → Q 1 S) : wX5_has (ad 15 0 0) (nI b) x (nI c) S Q := by
  have n16 := g.2.2.2.2.2.2.2.2.2.1
  refine sm_has h g hb hc (fun z => k0 (fun y => z ⟨k, y.1, hx, y.2⟩)) (fun k' a e y => k1 ?_)
  have : k' = k := by rw [hx] at e; exact ((nI_eq (by omega) (by omega)).mp e).symm
  subst this
  exact ⟨a, y⟩
theorem sm_lays (h : INV ad (TM T M) S) {b C W O N c k r : Nat} (g : GEO M b C W O N) (hb : b < 5) (hk : k < N) (hr : r < 8) (hc : c < 32) {Q : Int32 → HS → Prop} (kk : Q (shr C W O N k (M.2 7 (256 * b + 32 * r + c)) c) S) : wX5_lays (ad 15 0 0) (nI b) (nI k) (nI r) (nI c) S Q := by
  have n16 := g.2.2.2.2.2.2.2.2.2.1
  have hn : 256 * b + 32 * r + c < ml 7 := by show _ < 1280; omega
  refine ⟨m_ok h, fun o1 e1 => sm_dot rfl ⟨_, e1.trans (rf 7 h), rq 7 h rfl hn ⟨m_ok h, sm_hasN (k := k) h g hb (by omega) (by omega) rfl (fun z => ⟨fun z => absurd rfl z, fun _ => ?_⟩) (fun z => ⟨fun _ => ⟨m_ok h, sm_hasN (k := k + 1) h g hb (by omega) (by omega) (nI_1 k) (fun z1 => ⟨fun _ => ⟨m_ok h, ?_⟩, fun z => absurd rfl z⟩) (fun z1 => ⟨fun z => absurd z (by decide), fun _ => ?_⟩)⟩, fun z => absurd z (by decide)⟩)⟩⟩⟩
  · unfold shr at kk
    rw [if_neg (fun y => z ⟨hk, y⟩)] at kk
    exact kk
  · unfold shr at kk
    rw [if_pos z.2, if_neg z1] at kk
    rw [mv 7 h rfl hn]
    rcases Nat.eq_zero_or_pos k with e | e
    · refine sm_has h g hb (by omega) (fun z2 => ⟨fun _ => ?_, fun z => absurd rfl z⟩) (fun k' a e' y => ?_)
      · rw [if_neg (fun y => by omega)] at kk
        exact kk
      · rw [e, show nI 0 - 1 = (-1 : Int32) from by decide] at e'
        exact absurd e'.symm (one_pos (by omega))
    · refine sm_hasN (k := k - 1) h g hb (by omega) (by omega) (pk_sub (b := 1) e) (fun z2 => ⟨fun _ => ?_, fun z => absurd rfl z⟩) (fun z2 => ⟨fun z => absurd z (by decide), fun _ => ?_⟩)
      · rw [if_neg (fun y => z2 ⟨by omega, y.2⟩)] at kk
        exact kk
      · rw [if_pos ⟨e, z2.2⟩] at kk
        exact kk
  · unfold shr at kk
    rw [if_pos z.2, if_pos z1] at kk
    rw [mv 7 h rfl hn]
    exact kk
theorem ix8 {p r : Nat} : (8 : Int32) * nI p + nI r = nI (8 * p + r) := by rw [lit 8, pk_mul, nI_add]
theorem ix16 {p r : Nat} : (16 : Int32) * nI p + nI r = nI (16 * p + r) := by rw [lit 16, pk_mul, nI_add]
theorem lp_mbl (h : INV ad (TM T M) S) {p : Nat} (hp : p < 3) {K : Int32 → Int32 → HS → Prop} : ∀ (d i : Nat) (a m : Int32), i + d = 8 → m = nI i → K (acc (fun r => if M.2 14 (8 * p + r) = 0 then 0 else 1) d i a) (nI 8) S → wX5_blocked_L4 (ad 15 0 0) (nI p) (d + 1) a m S K := by
  intro d
  induction d with
  | zero =>
    intro i a m hi hm k
    subst hm
    obtain rfl : i = 8 := by omega
    exact ⟨fun _ => k, fun z => absurd (nI_le (Nat.le_refl 8) (by decide)) z⟩
  | succ d ih =>
    intro i a m hi hm k
    subst hm
    have hn : 8 * p + i < ml 14 := by show _ < 24; omega
    refine ⟨fun z => absurd z (lle (k := 8) (by omega) (by decide)), fun _ => ⟨m_ok h, rd 14 h ix8 hn ?_⟩⟩
    rw [mv 14 h ix8 hn]
    refine ⟨fun e => ih (i + 1) _ _ (by omega) (nI_1 i) ?_, fun e => ih (i + 1) _ _ (by omega) (nI_1 i) ?_⟩
    · rw [acc, if_pos e] at k; exact k
    · rw [acc, if_neg e] at k; exact k
theorem sm_blocked (h : INV ad (TM T M) S) {p : Nat} (hp : p < 3) {Q : Int32 → HS → Prop} (k : Q (acc (fun r => if M.2 14 (8 * p + r) = 0 then 0 else 1) 8 0 0) S) : wX5_blocked (ad 15 0 0) (nI p) S Q :=
  ⟨9, lp_mbl h hp 8 0 0 0 rfl nI_0.symm k⟩
theorem sm_wants (h : INV ad (TM T M) S) {p r : Nat} {v : Int32} (hp : p < 3) (hr : r < 8) {Q : HS → Prop} (k : ∀ S', INV ad (TM T (mw M p r v)) S' → Q S') : wX5_wants (ad 15 0 0) (nI p) (nI r) v S Q := by
  refine ⟨m_ok h, rd 13 h rfl hp ⟨m_ok h, fun o2 e2 => ⟨fun z => ⟨_, e2.trans (rf 18 h), rq 18 h rfl hr (fun S1 e1 => k S1 ?_)⟩, fun z => ⟨_, e2.trans (rf 18 h), rq 18 h rfl hr (fun S1 e1 => k S1 ?_)⟩⟩⟩⟩
  · rw [mv 13 h rfl hp] at z e1
    have := ms 18 h rfl hr e1
    unfold mw
    rw [if_neg (Int32.not_lt.mpr z)]
    exact this
  · rw [mv 13 h rfl hp] at z
    have := ms 18 h rfl hr e1
    unfold mw
    rw [if_pos (Int32.not_le.mp z)]
    exact this
theorem sm_isOff (h : INV ad (TM T M) S) {p r : Nat} {x : Int32} (hp : p < 3) (hr : r < 2 ^ 20) (hx : x = nI r) {Q : Int32 → HS → Prop} (k0 : ¬ (r < 8 ∧ ¬ M.2 14 (8 * p + r) = 0) → Q 0 S) (k1 : r < 8 ∧ ¬ M.2 14 (8 * p + r) = 0 → Q 1 S) : wX5_isOff (ad 15 0 0) (nI p) x S Q := by
  refine sm_isRow (fun z => ⟨fun _ => k0 (fun y => z ⟨r, y.1, hx⟩), fun z => absurd rfl z⟩) (fun r' hr' e => ⟨fun z => absurd z (by decide), fun _ => ⟨m_ok h, ?_⟩⟩)
  have : r' = r := by rw [hx] at e; exact ((nI_eq (by omega) (by omega)).mp e).symm
  subst this
  have hn : 8 * p + r' < ml 14 := by show _ < 24; omega
  rw [e, ix8]
  refine rd 14 h rfl hn ?_
  rw [mv 14 h rfl hn]
  exact ⟨fun z => k0 (fun y => y.2 z), fun z => k1 ⟨hr', z⟩⟩
theorem sm_isOff1 {p : Nat} {x : Int32} (hx : x = -1) {Q : Int32 → HS → Prop} (k0 : Q 0 S) : wX5_isOff (ad 15 0 0) (nI p) x S Q :=
  sm_isRow (fun z => ⟨fun _ => k0, fun z => absurd rfl z⟩) (fun r' hr' e => by rw [hx] at e; exact absurd e.symm (one_pos (by omega)))
theorem sm_J74 (h : INV ad (TM T M) S) {p : Nat} {t0 t1 : Int32} (hp : p < 3) {Q : Int32 → HS → Prop} (k : Q ((if 15 < t1 + t0 then 15 else t1 + t0) * M.2 12 p / 100) S) : wX5_nozzle_J74 (ad 15 0 0) (nI p) t0 t1 S Q := by
  refine ⟨fun z => ⟨m_ok h, rd 12 h rfl hp ?_⟩, fun z => ⟨m_ok h, rd 12 h rfl hp ?_⟩⟩
  · rw [if_neg (Int32.not_lt.mpr z)] at k
    rw [mv 12 h rfl hp]
    exact k
  · rw [if_pos (Int32.not_le.mp z)] at k
    rw [mv 12 h rfl hp]
    exact k
theorem sm_J46 (h : INV ad (TM T M) S) {p r : Nat} {t0 t1 : Int32} (hp : p < 3) (hr : r < 8) {Q : Int32 → HS → Prop} (k : Q ((if 15 < (t1 + t0) + (if 0 < r ∧ ¬ M.2 14 (8 * p + (r - 1)) = 0 then M.2 18 (r - 1) else 0) / 2 then 15 else (t1 + t0) + (if 0 < r ∧ ¬ M.2 14 (8 * p + (r - 1)) = 0 then M.2 18 (r - 1) else 0) / 2) * M.2 12 p / 100) S) : wX5_nozzle_J46 (ad 15 0 0) (nI p) (nI r) t0 t1 S Q := by
  have z2 : (0 : Int32) / 2 = 0 := by decide
  rcases Nat.eq_zero_or_pos r with e | e
  · refine ⟨m_ok h, sm_isOff1 (by rw [e]; decide) ⟨fun _ => sm_J74 h hp ?_, fun z => absurd rfl z⟩⟩
    rw [show (if 0 < r ∧ ¬ M.2 14 (8 * p + (r - 1)) = 0 then M.2 18 (r - 1) else 0) = 0 from if_neg (fun y => absurd y.1 (by omega)), z2] at k
    exact k
  · have e1 : nI r - 1 = nI (r - 1) := pk_sub (b := 1) e
    refine ⟨m_ok h, sm_isOff (r := r - 1) h hp (by omega) e1 (fun z => ⟨fun _ => sm_J74 h hp ?_, fun z => absurd rfl z⟩) (fun z => ⟨fun z => absurd z (by decide), fun _ => ⟨m_ok h, rd 18 h e1 (show r - 1 < 8 by omega) (sm_J74 h hp ?_)⟩⟩)⟩
    · rw [show (if 0 < r ∧ ¬ M.2 14 (8 * p + (r - 1)) = 0 then M.2 18 (r - 1) else 0) = 0 from if_neg (fun y => z ⟨by omega, y.2⟩), z2] at k
      exact k
    · rw [show (if 0 < r ∧ ¬ M.2 14 (8 * p + (r - 1)) = 0 then M.2 18 (r - 1) else 0) = M.2 18 (r - 1) from if_pos ⟨e, z.2⟩] at k
      rw [mv 18 h e1 (show r - 1 < 8 by omega)]
      exact k
theorem sm_nozzle (h : INV ad (TM T M) S) {p r : Nat} (hp : p < 3) (hr : r < 8) {Q : Int32 → HS → Prop} (k : Q (mnoz M p r) S) : wX5_nozzle (ad 15 0 0) (nI p) (nI r) S Q := by
  have z2 : ((0 : Int32) + 1) / 2 = 0 := by decide
  unfold mnoz noz at k
  refine ⟨m_ok h, sm_isOff (r := r) h hp (by omega) rfl (fun z => ⟨fun _ => ⟨m_ok h, rd 18 h rfl hr ⟨m_ok h, sm_isOff (r := r + 1) h hp (by omega) (nI_1 r) (fun z1 => ⟨fun _ => sm_J46 h hp hr ?_, fun z => absurd rfl z⟩) (fun z1 => ⟨fun z => absurd z (by decide), fun _ => ⟨m_ok h, rd 18 h (nI_1 r) z1.1 (sm_J46 h hp hr ?_)⟩⟩)⟩⟩, fun z => absurd rfl z⟩) (fun z => ⟨fun z => absurd z (by decide), fun _ => ?_⟩)⟩
  · have z0 : M.2 14 (8 * p + r) = 0 := by
      by_cases y : M.2 14 (8 * p + r) = 0
      · exact y
      · exact absurd ⟨hr, y⟩ z
    rw [if_pos z0, if_neg z1, z2] at k
    rw [mv 18 h rfl hr]
    exact k
  · have z0 : M.2 14 (8 * p + r) = 0 := by
      by_cases y : M.2 14 (8 * p + r) = 0
      · exact y
      · exact absurd ⟨hr, y⟩ z
    rw [if_pos z0, if_pos z1] at k
    rw [mv 18 h rfl hr, mv 18 h (nI_1 r) z1.1]
    exact k
  · rw [if_neg z.2] at k
    exact k
theorem sm_isPrinting (h : INV ad (TM T M) S) {x : Int32} {Q : Int32 → HS → Prop} (k0 : (∀ p, p < 3 → ¬ M.2 16 p = x) → Q 0 S) (k1 : (∃ p, p < 3 ∧ M.2 16 p = x) → Q 1 S) : wX5_isPrinting (ad 15 0 0) x S Q := by
  have lp : ∀ (d i : Nat) (m2 m : Int32), i + d = 3 → m = nI i → ((m2 = 0 ∧ ∀ p, p < i → ¬ M.2 16 p = x) ∨ (m2 = 1 ∧ ∃ p, p < 3 ∧ M.2 16 p = x)) → wX5_isPrinting_L4 (ad 15 0 0) x (d + 1) m2 m S (fun u1 u2 S1 => ((u1 = 0 ∨ u1 = 1) ∧ Q u1 S1)) := by
    intro d
    induction d with
    | zero =>
      intro i m2 m hi hm c
      subst hm
      obtain rfl : i = 3 := by omega
      refine ⟨fun _ => ?_, fun z => absurd (nI_le (Nat.le_refl 3) (by decide)) z⟩
      rcases c with ⟨rfl, c⟩ | ⟨rfl, c⟩
      · exact ⟨Or.inl rfl, k0 c⟩
      · exact ⟨Or.inr rfl, k1 c⟩
    | succ d ih =>
      intro i m2 m hi hm c
      subst hm
      refine ⟨fun z => absurd z (lle (k := 3) (by omega) (by decide)), fun _ => ⟨fun z => ih (i + 1) _ _ (by omega) (nI_1 i) ?_, fun z => ⟨m_ok h, rd 16 h rfl (show i < 3 by omega) ?_⟩⟩⟩
      · rcases c with ⟨rfl, c⟩ | ⟨rfl, c⟩
        · exact absurd rfl z
        · exact Or.inr ⟨rfl, c⟩
      · rw [mv 16 h rfl (show i < 3 by omega)]
        have c' : ∀ p, p < i → ¬ M.2 16 p = x := by
          rcases c with ⟨_, c⟩ | ⟨e, c⟩
          · exact c
          · rw [e] at z; exact absurd z (by decide)
        refine ⟨fun y => ih (i + 1) _ _ (by omega) (nI_1 i) (Or.inl ⟨rfl, fun p hp => ?_⟩), fun y => ih (i + 1) _ _ (by omega) (nI_1 i) (Or.inr ⟨rfl, i, by omega, y⟩)⟩
        rcases Nat.lt_succ_iff_lt_or_eq.mp hp with q | q
        · exact c' p q
        · rw [q]; exact y
  exact ⟨4, lp 3 0 0 0 rfl nI_0.symm (Or.inl ⟨rfl, fun p hp => absurd hp (by omega)⟩)⟩
theorem sm_place {b k r c : Nat} (hk : k < 2 ^ 20) {Q : Int32 → HS → Prop} (kk : Q (nI (1280 * (k % 2) + (256 * b + 32 * r + c))) S) : wX5_place (ad 15 0 0) (nI b) (nI k) (nI r) (nI c) S Q := by
  refine sm_dot rfl ?_
  rw [show nI k - nI k / (2 : Int32) * (2 : Int32) = nI (k % 2) from pk_rem (d := 2) (by omega) (by omega) (by omega), lit 1280, pk_mul, nI_add]
  exact kk
theorem sm_all (h : INV ad (TM T M) S) {b r c : Nat} (hb : b < 5) (hr : r < 8) (hc : c < 32) {Q : Int32 → HS → Prop} (k : Q (mlaid M (256 * b + 32 * r + c)) S) : wX5_all (ad 15 0 0) (nI b) (nI r) (nI c) S Q := by
  have hn : 256 * b + 32 * r + c < ml 8 := by show _ < 2560; omega
  have hn2 : 1280 + (256 * b + 32 * r + c) < ml 8 := by show _ < 2560; omega
  have e2 : (1280 : Int32) + nI (256 * b + 32 * r + c) = nI (1280 + (256 * b + 32 * r + c)) := by rw [lit 1280, nI_add]
  refine ⟨m_ok h, fun o1 e1 => sm_dot rfl ⟨_, e1.trans (rf 8 h), rq 8 h rfl hn ⟨m_ok h, fun o2 eo => sm_dot rfl ⟨_, eo.trans (rf 8 h), rq 8 h e2 hn2 ?_⟩⟩⟩⟩
  rw [mv 8 h rfl hn, mv 8 h e2 hn2]
  exact k
theorem sm_inkOf (h : INV ad (TM T M) S) {b r c : Nat} (hb : b < 5) (hr : r < 8) (hc : c < 32) {Q : Int32 → HS → Prop} (k : Q (mink M b (256 * b + 32 * r + c)) S) : wX5_inkOf (ad 15 0 0) (nI b) (nI r) (nI c) S Q := by
  unfold mink at k
  refine ⟨m_ok h, sm_all h hb hr hc ⟨m_ok h, rd 5 h rfl hb ⟨fun z => ⟨m_ok h, rd 5 h rfl hb ?_⟩, fun z => ?_⟩⟩⟩
  · rw [mv 5 h rfl hb] at z ⊢
    by_cases y : M.2 5 b < mlaid M (256 * b + 32 * r + c)
    · rw [if_pos y] at k; exact k
    · rw [if_neg y] at k
      rw [Int32.le_antisymm z (Int32.not_lt.mp y)]; exact k
  · rw [mv 5 h rfl hb] at z
    rw [if_neg (fun y => z (Int32.le_of_lt y))] at k
    exact k
theorem sm_error (h : INV ad (TM T M) S) {b r c : Nat} (hb : b < 5) (hr : r < 8) (hc : c < 32) {Q : Int32 → HS → Prop} (k : Q (merr M b (256 * b + 32 * r + c)) S) : wX5_error (ad 15 0 0) (nI b) (nI r) (nI c) S Q := by
  have hn : 256 * b + 32 * r + c < ml 7 := by show _ < 1280; omega
  unfold merr at k
  refine ⟨m_ok h, sm_inkOf h hb hr hc ⟨m_ok h, fun o1 e1 => sm_dot rfl ⟨_, e1.trans (rf 7 h), rq 7 h rfl hn ?_⟩⟩⟩
  rw [mv 7 h rfl hn]
  refine ⟨fun z => ?_, fun z => ?_⟩
  · rw [if_pos z] at k; exact k
  · rw [if_neg z] at k
    rw [← Int32.zero_sub]
    exact k
end MOD2
