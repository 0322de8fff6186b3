section CL6
variable {ad : Nat → Nat → Nat → Nat} {T : TT} {S : HS}
theorem sp_isRow {x : Int32} {Q : Int32 → HS → Prop} (k0 : (¬ ∃ r, r < 8 ∧ x = nI r) → Q 0 S) (k1 : ∀ r, r < 8 → x = nI r → Q 1 S) : wX4_isRow x S Q := by
  refine ⟨fun z => k0 (fun ⟨r, q, e⟩ => absurd (e ▸ z) (nI_pos (by omega))), fun z => ⟨fun z1 => k0 (fun ⟨r, q, e⟩ => absurd (e ▸ z1) (lle (k := 8) q (by decide))), fun z1 => ?_⟩⟩
  obtain ⟨j, hj, rfl⟩ := nI_of z
  exact k1 j (nI_lt_of hj z1) rfl
theorem sp_isWithin {x lo hi : Int32} {Q : Int32 → HS → Prop} (k0 : ¬ (lo ≤ x ∧ x ≤ hi) → Q 0 S) (k1 : lo ≤ x ∧ x ≤ hi → Q 1 S) : wX4_isWithin x lo hi S Q :=
  ⟨fun z => k0 (fun q => absurd z (Int32.not_lt.mpr q.1)), fun z => ⟨fun z1 => k0 (fun q => absurd z1 (Int32.not_lt.mpr q.2)), fun z1 => k1 ⟨Int32.not_lt.mp z, Int32.not_lt.mp z1⟩⟩⟩
theorem sp_setLevels (h : INV ad T S) {b r f e : Nat} {x : Int32} (hb : b < tN T) (hr : r < 8) (hfe : f ≤ e) (he : e ≤ 32) {Q : Int32 → HS → Prop} (k : ∀ S', INV ad (ulev b r x (e - f) f T) S' → Q (acc (fun c => if tA T 8 b 0 (32 * r + c) = x then 0 else 1) (e - f) f 0) S') : wX0_setLevels (ad 6 b 0) (nI r) (nI f) (nI e) x S Q :=
  ⟨e - f + 1, lp_lev hr he (e - f) f 0 (nI f) T S h hb (by omega) rfl k⟩
/-- which strip a printer takes -/
def bet (T : TT) (b : Nat) : Option (Nat × Nat) → Bool
  | none => true
  | some q => decide (tF T 6 b 0 2 < tF T 6 q.1 0 2)
def tk1 (T : TT) (p b : Nat) (e : Option (Nat × Nat)) : Option (Nat × Nat) :=
  if b < tN T ∧ bet T b e = true then (match fwn (fun k => decide (k < tS T b ∧ tF T 12 b k 102 = nI p)) 16 0 with | none => e | some k => some (b, k)) else e
def tkL (T : TT) (p : Nat) : Nat → Nat → Option (Nat × Nat) → Option (Nat × Nat)
  | 0, _, e => e
  | d + 1, b, e => tkL T p d (b + 1) (tk1 T p b e)
def utake (T : TT) (p : Nat) : TT := match tkL T p 5 0 none with | none => T | some q => ustart T p q.1 q.2
theorem fwn_lt {P : Nat → Bool} : ∀ (d i k : Nat), fwn P d i = some k → P k = true ∧ i ≤ k ∧ k < i + d := by
  intro d
  induction d with
  | zero => intro i k h; cases h
  | succ d ih =>
    intro i k h
    rw [fwn] at h
    by_cases q : P i = true
    · rw [if_pos q] at h
      cases h
      exact ⟨q, Nat.le_refl _, by omega⟩
    · rw [if_neg q] at h
      obtain ⟨a1, a2, a3⟩ := ih _ _ h
      exact ⟨a1, by omega, by omega⟩
theorem tk1_ok {p b : Nat} {e : Option (Nat × Nat)} (he : ∀ q, e = some q → q.1 < tN T ∧ q.2 < tS T q.1) : ∀ q, tk1 T p b e = some q → q.1 < tN T ∧ q.2 < tS T q.1 := by
  intro q hq
  unfold tk1 at hq
  by_cases z : b < tN T ∧ bet T b e = true
  · rw [if_pos z] at hq
    cases w : fwn (fun k => decide (k < tS T b ∧ tF T 12 b k 102 = nI p)) 16 0 with
    | none => rw [w] at hq; exact he q hq
    | some k =>
      rw [w] at hq
      cases hq
      exact ⟨z.1, (of_decide_eq_true (fwn_lt _ _ _ w).1).1⟩
  · rw [if_neg z] at hq; exact he q hq
theorem lp_tk (h : INV ad T S) {p : Nat} {o1 : Option Nat} {K : Option Nat → Option Nat → Int32 → Int32 → HS → Prop} : ∀ (d i : Nat) (e : Option (Nat × Nat)) (m3 m4 : Option Nat) (m5 m : Int32), i + d = 5 → m = nI i → (∀ q, e = some q → q.1 < tN T ∧ q.2 < tS T q.1) → m3 = e.map (fun q => ad 6 q.1 0) → m4 = e.map (fun q => ad 12 q.1 q.2) → m5 = (match e with | none => -1 | some q => nI q.1) →
    (∀ e', e' = tkL T p d i e → (∀ q, e' = some q → q.1 < tN T ∧ q.2 < tS T q.1) → K (e'.map (fun q => ad 6 q.1 0)) (e'.map (fun q => ad 12 q.1 q.2)) (match e' with | none => -1 | some q => nI q.1) (nI 5) S) → wX4_takeFirstWaiting_L11 (ad 0 0 0) o1 (nI p) (d + 1) m3 m4 m5 m S K := by
  obtain ⟨h1, h2, h3, h4, h5, h6, h7, h8, h9⟩ := s_ref h
  intro d
  induction d with
  | zero =>
    intro i e m3 m4 m5 m hi hm he e3 e4 e5 k
    subst hm
    subst e3
    subst e4
    subst e5
    obtain rfl : i = 5 := by omega
    exact ⟨h1, fun o ho => ⟨_, ho.trans h2, h4, ⟨fun _ => k e rfl he, fun z => absurd (by rw [h5]; exact nI_le (Nat.le_refl 5) (by decide)) z⟩⟩⟩
  | succ d ih =>
    intro i e m3 m4 m5 m hi hm he e3 e4 e5 k
    subst hm
    have step := ih (i + 1) (tk1 T p i e)
    refine ⟨h1, fun o ho => ⟨_, ho.trans h2, h4, ⟨fun z => absurd z (by rw [h5]; exact nI_ge (by omega) (by decide)), fun _ => ⟨h1, fun o2 ho2 => ⟨_, ho2.trans h2, h4, by rw [h5]; exact vp_in_nI (by omega) (by decide), fun o3 ho3 => ?_⟩⟩⟩⟩⟩
    rw [nI_clamp (by omega), h8 i (by omega)] at ho3
    have hk' : ∀ e', e' = tkL T p d (i + 1) (tk1 T p i e) → (∀ q, e' = some q → q.1 < tN T ∧ q.2 < tS T q.1) → K (e'.map (fun q => ad 6 q.1 0)) (e'.map (fun q => ad 12 q.1 q.2)) (match e' with | none => -1 | some q => nI q.1) (nI 5) S := k
    by_cases q : i < tN T
    · rw [if_pos q] at ho3
      subst ho3
      refine ⟨fun z => (by cases z), fun q3 z3 => ?_⟩
      cases z3
      refine ⟨fun z => ⟨(b_ref h q).1, sp_fw h q (fun w => ⟨fun _ => ?_, fun _ z => (by cases z)⟩) (fun k2 w => ⟨fun z => (by cases z), fun q5 z5 => ?_⟩)⟩, fun q4 z4 => ⟨(b_ref h q).1, ?_⟩⟩
      · have en : e = none := by cases e with | none => rfl | some a => rw [e3] at z; cases z
        have e1 : tk1 T p i e = e := by unfold tk1; rw [w]; split <;> rfl
        rw [e1] at step
        subst en
        exact step none m4 m5 _ (by omega) (nI_1 i) he rfl e4 e5 (by rw [e1] at hk'; exact hk')
      · cases z5
        have en : e = none := by cases e with | none => rfl | some a => rw [e3] at z; cases z
        subst en
        have e1 : tk1 T p i none = some (i, k2) := by unfold tk1; rw [if_pos ⟨q, rfl⟩, w]
        rw [e1] at step hk'
        exact step _ _ _ _ (by omega) (nI_1 i) (e1 ▸ tk1_ok he) rfl rfl rfl hk'
      · cases e with
        | none => rw [e3] at z4; cases z4
        | some a =>
          obtain ⟨ha1, ha2⟩ := he a rfl
          have q4e : q4 = ad 6 a.1 0 := by rw [e3] at z4; exact (Option.some.inj z4).symm
          subst q4e
          refine ⟨(b_ref h ha1).1, ?_⟩
          rw [h.I (vk6 q (by decide) (by decide)), h.I (vk6 ha1 (by decide) (by decide))]
          refine ⟨fun z => ⟨(b_ref h q).1, sp_fw h q (fun w => ⟨fun _ => ?_, fun _ z => (by cases z)⟩) (fun k2 w => ⟨fun z => (by cases z), fun q5 z5 => ?_⟩)⟩, fun z => ?_⟩
          · have e1 : tk1 T p i (some a) = some a := by unfold tk1; rw [w]; split <;> rfl
            rw [e1] at step hk'
            exact step _ m4 m5 _ (by omega) (nI_1 i) he rfl e4 e5 hk'
          · cases z5
            have e1 : tk1 T p i (some a) = some (i, k2) := by unfold tk1; rw [if_pos ⟨q, decide_eq_true z⟩, w]
            rw [e1] at step hk'
            exact step _ _ _ _ (by omega) (nI_1 i) (e1 ▸ tk1_ok he) rfl rfl rfl hk'
          · have e1 : tk1 T p i (some a) = some a := by unfold tk1; rw [if_neg (fun y => z (of_decide_eq_true y.2))]
            rw [e1] at step hk'
            exact step _ m4 m5 _ (by omega) (nI_1 i) he rfl e4 e5 hk'
    · rw [if_neg q] at ho3
      subst ho3
      have e1 : tk1 T p i e = e := by unfold tk1; rw [if_neg (fun y => q y.1)]
      rw [e1] at step hk'
      exact ⟨fun _ => step m3 m4 m5 _ (by omega) (nI_1 i) he e3 e4 e5 hk', fun _ z => (by cases z)⟩
theorem sp_take (h : INV ad T S) {p : Nat} (hp : p < 3) {Q : HS → Prop} (k : ∀ S', INV ad (utake T p) S' → Q S') : wX4_takeFirstWaiting (ad 0 0 0) (some (ad 3 p 0)) (nI p) S Q := by
  refine ⟨6, lp_tk h 5 0 none none none (-1) 0 rfl nI_0.symm (fun q z => (by cases z)) rfl rfl rfl (fun e' he' ok' => ⟨fun z => ?_, fun q7 z7 => ⟨fun z => ?_, fun q8 z8 => ⟨_, rfl, (p_bl h hp).1, ?_⟩⟩⟩)⟩
  · have en : e' = none := by cases e' with | none => rfl | some a => cases z
    refine k S ?_
    unfold utake
    rw [← he', en]
    exact h
  · cases e' with
    | none => cases z7
    | some a => cases z
  · cases e' with
    | none => cases z7
    | some a =>
      cases z7
      cases z8
      obtain ⟨ha1, ha2⟩ := ok' a rfl
      refine sp_start h hp (vk12 ha1 ha2 (by decide) (by decide)) (fun S' h' => k S' ?_)
      unfold utake
      rw [← he']
      exact h'
def ust1 (T : TT) (p : Nat) : TT := if tP T p = none ∧ ¬ tF T 3 p 0 69 ≤ 0 then utake T p else T
def ustL : Nat → Nat → TT → TT
  | 0, _, T => T
  | d + 1, p, T => ustL d (p + 1) (ust1 T p)
theorem lp_sti {K : Int32 → HS → Prop} : ∀ (d p : Nat) (m : Int32) (T : TT) (S : HS), INV ad T S → p + d = 3 → m = nI p → (∀ S', INV ad (ustL d p T) S' → K (nI 3) S') → wX4_startIdlePrinters_L2 (ad 0 0 0) (d + 1) m S K := by
  intro d
  induction d with
  | zero =>
    intro p m T S h hi hm k
    obtain ⟨h1, h2, h3, h4, h5, h6, h7, h8, h9⟩ := s_ref h
    subst hm
    obtain rfl : p = 3 := by omega
    exact ⟨h1, fun o ho => ⟨_, ho.trans h3, h6, ⟨fun _ => k S h, fun z => absurd (by rw [h7]; exact nI_le (Nat.le_refl 3) (by decide)) z⟩⟩⟩
  | succ d ih =>
    intro p m T S h hi hm k
    obtain ⟨h1, h2, h3, h4, h5, h6, h7, h8, h9⟩ := s_ref h
    subst hm
    have hp : p < 3 := by omega
    refine ⟨h1, fun o ho => ⟨_, ho.trans h3, h6, ⟨fun z => absurd z (by rw [h7]; exact nI_ge (by omega) (by decide)), fun _ => ⟨h1, fun o2 ho2 => ⟨_, ho2.trans h3, h6, by rw [h7]; exact vp_in_nI (by omega) (by decide), fun o3 ho3 => ?_⟩⟩⟩⟩⟩
    rw [nI_clamp (by omega), h9 p hp] at ho3
    subst ho3
    refine ⟨fun z => (by cases z), fun q3 z3 => ?_⟩
    cases z3
    refine ⟨(p_bl h hp).1, sp_isPrinting h hp (fun w => ⟨fun z => absurd rfl z, fun _ => ⟨(p_bl h hp).1, ?_⟩⟩) (fun q w => ⟨fun _ => ?_, fun z => absurd z (by decide)⟩)⟩
    · rw [h.I (vk3 hp (by decide) (by decide))]
      refine ⟨fun z => ih (p + 1) _ T S h (by omega) (nI_1 p) (fun S' h' => k S' ?_), fun z => ⟨h1, sp_take h hp (fun S' h' => ih (p + 1) _ (utake T p) S' h' (by omega) (nI_1 p) (fun S2 h2 => k S2 ?_))⟩⟩
      · rw [ustL, ust1, if_neg (fun y => y.2 z)]; exact h'
      · rw [ustL, ust1, if_pos ⟨w, z⟩]; exact h2
    · refine ih (p + 1) _ T S h (by omega) (nI_1 p) (fun S' h' => k S' ?_)
      rw [ustL, ust1, if_neg (fun y => (by rw [w] at y; cases y.1))]; exact h'
theorem sp_startIdle (h : INV ad T S) {Q : HS → Prop} (k : ∀ S', INV ad (ustL 3 0 T) S' → Q S') : wX4_startIdlePrinters (ad 0 0 0) S Q :=
  ⟨4, lp_sti 3 0 0 T S h rfl nI_0.symm k⟩
/-- what holds of the printers, for a tick to go through -/
def GP (T : TT) : Prop := ∀ p, p < 3 → (tP T p = none → tB T p = none) ∧ ∀ q, tP T p = some q → tB T p = some q.1 ∧ q.1 < tN T ∧ q.2 < tS T q.1
def GA (T : TT) : Prop := ∀ b s, b < tN T → s < tS T b → ∃ f e, tF T 12 b s 97 = nI f ∧ tF T 12 b s 98 = nI e ∧ f ≤ e ∧ e ≤ 32
def uE (T : TT) (p : Nat) : Int32 × TT := match tP T p with
  | none => (0, T)
  | some q => if tF T 3 p 0 73 - 1 ≤ 0 then (1, uend T p q.1 q.2 (tF T 12 q.1 q.2 97).toNatClampNeg (tF T 12 q.1 q.2 98).toNatClampNeg (tF T 0 0 0 131)) else (0, utick T p)
def uEL : Nat → Nat → Int32 → TT → Int32 × TT
  | 0, _, a, T => (a, T)
  | d + 1, p, a, T => uEL d (p + 1) (if (uE T p).1 = 0 then a else a + 1) (uE T p).2
theorem layC_BP {p b s : Nat} : ∀ (d c : Nat) (g : Int32) (T : TT), (layC p b s d c g T).2.2.2 = T.2.2 := by
  have d8 : ∀ (c d r : Nat) (T : TT), (dos8 p b s c d r T).2.2 = T.2.2 := by
    intro c d
    induction d with
    | zero => intros; rfl
    | succ d ih => intro r T; rw [dos8, ih]; rfl
  have l8 : ∀ (c d r : Nat) (g : Int32) (T : TT), (lay8 p b s c d r g T).2.2.2 = T.2.2 := by
    intro c d
    induction d with
    | zero => intros; rfl
    | succ d ih => intro r g T; rw [lay8, ih]; rfl
  intro d
  induction d with
  | zero => intros; rfl
  | succ d ih => intro c g T; rw [layC, ih, l8, d8]
theorem layC_F {p b s : Nat} : ∀ (d c : Nat) (g : Int32) (T : TT) (i j z : Nat), tF (layC p b s d c g T).2 12 i j z = tF T 12 i j z := by
  intro d
  induction d with
  | zero => intros; rfl
  | succ d ih => intro c g T i j z; rw [layC, ih, lay_F, dos_F]
theorem uend_BP {p b s f e : Nat} {now : Int32} : (uend T p b s f e now).2.2 = (uP (uB T p none) p none).2.2 := by
  unfold uend
  show (fun p' => if p' = p then none else (layC p b s (e - f) f 0 (utick T p)).2.2.2.1 p', fun p' => if p' = p then none else (layC p b s (e - f) f 0 (utick T p)).2.2.2.2.1 p', (layC p b s (e - f) f 0 (utick T p)).2.2.2.2.2.1, (layC p b s (e - f) f 0 (utick T p)).2.2.2.2.2.2) = _
  rw [layC_BP]
  rfl
theorem tN_e {T T' : TT} (e : T'.2.2 = T.2.2) : tN T' = tN T ∧ tS T' = tS T ∧ tP T' = tP T ∧ tB T' = tB T := by
  unfold tN tP tB
  rw [e]
  exact ⟨rfl, funext (fun b => by unfold tS; rw [e]), rfl, rfl⟩
theorem GP_uE {p : Nat} (h : GP T) : GP (uE T p).2 := by
  unfold uE
  cases w : tP T p with
  | none => exact h
  | some q =>
    show GP (ite _ _ _ : Int32 × TT).2
    by_cases z : tF T 3 p 0 73 - 1 ≤ 0
    · rw [if_pos z]
      intro p' hp'
      obtain ⟨e1, e2, e3, e4⟩ := tN_e (uend_BP (T := T) (p := p) (b := q.1) (s := q.2) (f := (tF T 12 q.1 q.2 97).toNatClampNeg) (e := (tF T 12 q.1 q.2 98).toNatClampNeg) (now := tF T 0 0 0 131))
      show (tP (uend _ _ _ _ _ _ _) p' = none → tB (uend _ _ _ _ _ _ _) p' = none) ∧ _
      rw [e1, e2, e3, e4]
      by_cases e : p' = p
      · rw [tP_uP, if_pos e, tB_uP, tB_uB, if_pos e]
        exact ⟨fun _ => rfl, fun _ y => (by cases y)⟩
      · rw [tP_uP, if_neg e, tB_uP, tB_uB, if_neg e]
        exact h p' hp'
    · rw [if_neg z]
      exact h
theorem GA_uE {p : Nat} (h : GA T) : GA (uE T p).2 := by
  unfold uE
  cases w : tP T p with
  | none => exact h
  | some q =>
    show GA (ite _ _ _ : Int32 × TT).2
    by_cases z : tF T 3 p 0 73 - 1 ≤ 0
    · rw [if_pos z]
      intro b s hb hs
      obtain ⟨e1, e2, e3, e4⟩ := tN_e (uend_BP (T := T) (p := p) (b := q.1) (s := q.2) (f := (tF T 12 q.1 q.2 97).toNatClampNeg) (e := (tF T 12 q.1 q.2 98).toNatClampNeg) (now := tF T 0 0 0 131))
      have hb' : b < tN T := lt_of_lt_of_eq hb e1
      have hs' : s < tS T b := lt_of_lt_of_eq hs (congrFun e2 b)
      obtain ⟨f, e, a1, a2, a3, a4⟩ := h b s hb' hs'
      have g : ∀ c, c = 97 ∨ c = 98 → tF (uend T p q.1 q.2 (tF T 12 q.1 q.2 97).toNatClampNeg (tF T 12 q.1 q.2 98).toNatClampNeg (tF T 0 0 0 131)) 12 b s c = tF T 12 b s c := by
        intro c hc
        unfold uend
        rw [tF_uP, tF_uB, tF_uF, if_neg (fun y => by omega), tF_uF, if_neg (fun y => by omega), layC_F]
        unfold utick
        rw [tF_uF, if_neg (fun y => by omega)]
      exact ⟨f, e, (g 97 (Or.inl rfl)).trans a1, (g 98 (Or.inr rfl)).trans a2, a3, a4⟩
    · rw [if_neg z]
      intro b s hb hs
      obtain ⟨f, e, a1, a2, a3, a4⟩ := h b s hb hs
      refine ⟨f, e, ?_, ?_, a3, a4⟩
      · show tF (utick T p) 12 b s 97 = _
        unfold utick
        rw [tF_uF, if_neg (fun y => by omega)]; exact a1
      · show tF (utick T p) 12 b s 98 = _
        unfold utick
        rw [tF_uF, if_neg (fun y => by omega)]; exact a2
theorem lp_end {K : Int32 → Int32 → HS → Prop} : ∀ (d p : Nat) (a m : Int32) (T : TT) (S : HS), INV ad T S → GP T → GA T → p + d = 3 → m = nI p → (∀ S', INV ad (uEL d p a T).2 S' → K (uEL d p a T).1 (nI 3) S') → wX4_endTick_L4 (ad 0 0 0) (d + 1) a m S K := by
  intro d
  induction d with
  | zero =>
    intro p a m T S h hG hA hi hm k
    obtain ⟨h1, h2, h3, h4, h5, h6, h7, h8, h9⟩ := s_ref h
    subst hm
    obtain rfl : p = 3 := by omega
    exact ⟨h1, fun o ho => ⟨_, ho.trans h3, h6, ⟨fun _ => k S h, fun z => absurd (by rw [h7]; exact nI_le (Nat.le_refl 3) (by decide)) z⟩⟩⟩
  | succ d ih =>
    intro p a m T S h hG hA hi hm k
    obtain ⟨h1, h2, h3, h4, h5, h6, h7, h8, h9⟩ := s_ref h
    subst hm
    have hp : p < 3 := by omega
    refine ⟨h1, fun o ho => ⟨_, ho.trans h3, h6, ⟨fun z => absurd z (by rw [h7]; exact nI_ge (by omega) (by decide)), fun _ => ⟨h1, fun o2 ho2 => ⟨_, ho2.trans h3, h6, by rw [h7]; exact vp_in_nI (by omega) (by decide), fun o3 ho3 => ?_⟩⟩⟩⟩⟩
    rw [nI_clamp (by omega), h9 p hp] at ho3
    subst ho3
    refine ⟨fun z => (by cases z), fun q3 z3 => ?_⟩
    cases z3
    refine ⟨h1, (p_bl h hp).1, ?_⟩
    rw [h.I (vk0 (by decide))]
    obtain ⟨g1, g2⟩ := hG p hp
    have goal0 : ∀ S', INV ad (uE T p).2 S' → (uE T p).1 = 0 → wX4_endTick_L4 (ad 0 0 0) (d + 1) a (nI p + 1) S' K := by
      intro S' h' z
      refine ih (p + 1) a _ _ S' h' (GP_uE hG) (GA_uE hA) (by omega) (nI_1 p) ?_
      rw [uEL, if_pos z] at k
      exact k
    have goal1 : ∀ S', INV ad (uE T p).2 S' → ¬ (uE T p).1 = 0 → wX4_endTick_L4 (ad 0 0 0) (d + 1) (a + 1) (nI p + 1) S' K := by
      intro S' h' z
      refine ih (p + 1) (a + 1) _ _ S' h' (GP_uE hG) (GA_uE hA) (by omega) (nI_1 p) ?_
      rw [uEL, if_neg z] at k
      exact k
    cases w : tP T p with
    | none =>
      have e1 : uE T p = (0, T) := by unfold uE; rw [w]
      rw [e1] at goal0
      exact sp_endsStrip0 h hp (g1 w) ⟨fun _ => goal0 S h rfl, fun z => absurd rfl z⟩
    | some q =>
      obtain ⟨b1, b2, b3⟩ := g2 q w
      obtain ⟨f, e, c1, c2, c3, c4⟩ := hA q.1 q.2 b2 b3
      have e1 : uE T p = if tF T 3 p 0 73 - 1 ≤ 0 then (1, uend T p q.1 q.2 f e (tF T 0 0 0 131)) else (0, utick T p) := by
        unfold uE
        rw [w]
        show ite _ _ _ = _
        rw [c1, c2, nI_clamp (by omega), nI_clamp (by omega)]
      refine sp_endsStrip h hp b1 w (vk12 b2 b3 (by decide) (by decide)) c1 c2 c3 c4 (fun z S' h' => ⟨fun _ => goal0 S' ?_ ?_, fun z => absurd rfl z⟩) (fun z S' h' => ⟨fun z => absurd z (by decide), fun _ => goal1 S' ?_ ?_⟩)
      · rw [e1, if_neg z]; exact h'
      · rw [e1, if_neg z]
      · rw [e1, if_pos z]; exact h'
      · rw [e1, if_pos z]; exact (by decide : ¬ (1 : Int32) = 0)
theorem sp_endTick (h : INV ad T S) (hG : GP T) (hA : GA T) {Q : Int32 → HS → Prop} (k : ∀ S', INV ad (uEL 3 0 0 T).2 S' → Q (uEL 3 0 0 T).1 S') : wX4_endTick (ad 0 0 0) S Q :=
  ⟨4, lp_end 3 0 0 0 T S h hG hA rfl nI_0.symm k⟩
end CL6
