/-! The reference's ticks -/
def gC (M : MM) (b : Nat) : Nat := (M.2 2 b).toNatClampNeg
def gW (M : MM) (b : Nat) : Nat := (M.2 3 b).toNatClampNeg
def gO (M : MM) (b : Nat) : Nat := (M.2 4 b).toNatClampNeg
def mbet (M : MM) (k : Nat) : Option Nat → Bool
  | none => true
  | some q => decide (M.2 6 (k / 16) < M.2 6 (q / 16))
def mt1 (M : MM) (p k : Nat) (e : Option Nat) : Option Nat := if M.2 9 k = nI p ∧ mbet M k e = true then some k else e
def mtL (M : MM) (p : Nat) : Nat → Nat → Option Nat → Option Nat
  | 0, _, e => e
  | d + 1, k, e => mtL M p d (k + 1) (mt1 M p k e)
def mtk (M : MM) (p q : Nat) : MM := mA (mA (mA M 9 q (-1)) 16 p (nI q)) 17 p (nI (eN (gC M (q / 16)) (gW M (q / 16)) (gO M (q / 16)) (q % 16)) - nI (q % 16 * (gW M (q / 16) - gO M (q / 16))))
def mtake (M : MM) (p : Nat) : MM := match mtL M p 80 0 none with | none => M | some q => mtk M p q
def mst1 (M : MM) (p : Nat) : MM := if M.2 16 p = -1 then mtake M p else M
def mstL : Nat → Nat → MM → MM
  | 0, _, M => M
  | d + 1, p, M => mstL d (p + 1) (mst1 M p)
def mdos (C W O N p b k c : Nat) : Nat → Nat → MM → MM
  | 0, _, M => M
  | d + 1, r, M => mdos C W O N p b k c d (r + 1) (mw M p r (shr C W O N k (M.2 7 (256 * b + 32 * r + c)) c))
def mlp (p b n : Nat) (x : Int32) (M : MM) : MM := mA (mA (mA M 8 n x) 15 p (M.2 15 p + x)) 11 b (M.2 11 b + x)
def mlay (p b k c : Nat) : Nat → Nat → Int32 → MM → Int32 × MM
  | 0, _, g, M => (g, M)
  | d + 1, r, g, M => mlay p b k c d (r + 1) (if g < mnoz M p r then mnoz M p r else g) (mlp p b (1280 * (k % 2) + (256 * b + 32 * r + c)) (mnoz M p r) M)
def mcol (C W O N p b k : Nat) : Nat → Nat → Int32 → MM → Int32 × MM
  | 0, _, g, M => (g, M)
  | d + 1, c, g, M => mcol C W O N p b k d (c + 1) (mlay p b k c 8 0 g (mdos C W O N p b k c 8 0 M)).1 (mlay p b k c 8 0 g (mdos C W O N p b k c 8 0 M)).2
def mfc (M : MM) (p q N : Nat) : Int32 × MM := mcol (gC M (q / 16)) (gW M (q / 16)) (gO M (q / 16)) N p (q / 16) (q % 16) (eN (gC M (q / 16)) (gW M (q / 16)) (gO M (q / 16)) (q % 16) - q % 16 * (gW M (q / 16) - gO M (q / 16))) (q % 16 * (gW M (q / 16) - gO M (q / 16))) 0 M
def mfin (M : MM) (p q N : Nat) : MM := mA (mA (mfc M p q N).2 10 q ((mfc M p q N).2.1 160 + (mfc M p q N).1)) 16 p (-1)
def mtic (M : MM) (p : Nat) : MM := mA M 17 p (M.2 17 p - 1)
def mE (M : MM) (ss : Nat → Nat) (p : Nat) : Int32 × MM :=
  if M.2 16 p = -1 then (0, M) else if M.2 17 p - 1 = 0 then (1, mfin (mtic M p) p (M.2 16 p).toNatClampNeg (ss ((M.2 16 p).toNatClampNeg / 16))) else (0, mtic M p)
def mEL (ss : Nat → Nat) : Nat → Nat → Int32 → MM → Int32 × MM
  | 0, _, a, M => (a, M)
  | d + 1, p, a, M => mEL ss d (p + 1) (if (mE M ss p).1 = 0 then a else a + 1) (mE M ss p).2
/-- what the reference's state keeps -/
def MVal (M : MM) (Nb : Nat) (ss : Nat → Nat) : Prop := Nb ≤ 5 ∧ (∀ b, b < Nb → GEO M b (gC M b) (gW M b) (gO M b) (ss b)) ∧ (∀ k, k < 80 → ∀ p, p < 3 → M.2 9 k = nI p → k / 16 < Nb ∧ k % 16 < ss (k / 16)) ∧ ∀ p, p < 3 → M.2 16 p = -1 ∨ ∃ q, q < 80 ∧ M.2 16 p = nI q ∧ q / 16 < Nb ∧ q % 16 < ss (q / 16)
theorem mdos_e {C W O N p b k c j n : Nat} (hj : j ≠ 18) : ∀ (d r : Nat) (M : MM), (mdos C W O N p b k c d r M).2 j n = M.2 j n := by
  intro d
  induction d with
  | zero => intros; rfl
  | succ d ih =>
    intro r M
    rw [mdos, ih]
    show (if j = 18 ∧ n = r then _ else M.2 j n) = _
    rw [if_neg (fun y => hj y.1)]
theorem mdos_1 {C W O N p b k c : Nat} : ∀ (d r : Nat) (M : MM), (mdos C W O N p b k c d r M).1 = M.1 := by
  intro d
  induction d with
  | zero => intros; rfl
  | succ d ih => intro r M; rw [mdos, ih]; rfl
theorem mlp_e {p b m j n : Nat} {x : Int32} {M : MM} (h8 : j ≠ 8) (h11 : j ≠ 11) (h15 : j ≠ 15) : (mlp p b m x M).2 j n = M.2 j n := by
  show (if j = 11 ∧ n = b then _ else if j = 15 ∧ n = p then _ else if j = 8 ∧ n = m then _ else M.2 j n) = _
  rw [if_neg (fun y => h11 y.1), if_neg (fun y => h15 y.1), if_neg (fun y => h8 y.1)]
theorem mlay_e {p b k c j n : Nat} (h8 : j ≠ 8) (h11 : j ≠ 11) (h15 : j ≠ 15) : ∀ (d r : Nat) (g : Int32) (M : MM), (mlay p b k c d r g M).2.2 j n = M.2 j n := by
  intro d
  induction d with
  | zero => intros; rfl
  | succ d ih =>
    intro r g M
    rw [mlay, ih, mlp_e h8 h11 h15]
theorem mlay_1 {p b k c : Nat} : ∀ (d r : Nat) (g : Int32) (M : MM), (mlay p b k c d r g M).2.1 = M.1 := by
  intro d
  induction d with
  | zero => intros; rfl
  | succ d ih => intro r g M; rw [mlay, ih]; rfl
theorem mcol_e {C W O N p b k j n : Nat} (h8 : j ≠ 8) (h11 : j ≠ 11) (h15 : j ≠ 15) (h18 : j ≠ 18) : ∀ (d c : Nat) (g : Int32) (M : MM), (mcol C W O N p b k d c g M).2.2 j n = M.2 j n := by
  intro d
  induction d with
  | zero => intros; rfl
  | succ d ih => intro c g M; rw [mcol, ih, mlay_e h8 h11 h15, mdos_e h18]
theorem mcol_1 {C W O N p b k : Nat} : ∀ (d c : Nat) (g : Int32) (M : MM), (mcol C W O N p b k d c g M).2.1 = M.1 := by
  intro d
  induction d with
  | zero => intros; rfl
  | succ d ih => intro c g M; rw [mcol, ih, mlay_1, mdos_1]
theorem mA_2 (M : MM) (j n : Nat) (v : Int32) (j' n' : Nat) : (mA M j n v).2 j' n' = if j' = j ∧ n' = n then v else M.2 j' n' := rfl
theorem mA_1 (M : MM) (j n : Nat) (v : Int32) : (mA M j n v).1 = M.1 := rfl
theorem mF_1 (M : MM) (c : Nat) (v : Int32) (c' : Nat) : (mF M c v).1 c' = if c' = c then v else M.1 c' := rfl
theorem mF_2 (M : MM) (c : Nat) (v : Int32) : (mF M c v).2 = M.2 := rfl
theorem GEO_e {M M' : MM} {b C W O N : Nat} (g : GEO M b C W O N) (e2 : M'.2 2 b = M.2 2 b) (e3 : M'.2 3 b = M.2 3 b) (e4 : M'.2 4 b = M.2 4 b) : GEO M' b C W O N :=
  ⟨e2.trans g.1, e3.trans g.2.1, e4.trans g.2.2.1, g.2.2.2⟩
theorem MVal_e {M M' : MM} {Nb : Nat} {ss : Nat → Nat} (v : MVal M Nb ss) (e2 : ∀ b, M'.2 2 b = M.2 2 b) (e3 : ∀ b, M'.2 3 b = M.2 3 b) (e4 : ∀ b, M'.2 4 b = M.2 4 b) (e9 : ∀ k, k < 80 → ∀ p, p < 3 → M'.2 9 k = nI p → M.2 9 k = nI p) (e16 : ∀ p, p < 3 → M'.2 16 p = M.2 16 p ∨ M'.2 16 p = -1 ∨ ∃ q, q < 80 ∧ M'.2 16 p = nI q ∧ q / 16 < Nb ∧ q % 16 < ss (q / 16)) : MVal M' Nb ss := by
  refine ⟨v.1, fun b hb => ?_, fun k hk p hp e => v.2.2.1 k hk p hp (e9 k hk p hp e), fun p hp => ?_⟩
  · rw [show gC M' b = gC M b from by unfold gC; rw [e2], show gW M' b = gW M b from by unfold gW; rw [e3], show gO M' b = gO M b from by unfold gO; rw [e4]]
    exact GEO_e (v.2.1 b hb) (e2 b) (e3 b) (e4 b)
  · rcases e16 p hp with e | e | e
    · rw [e]; exact v.2.2.2 p hp
    · exact Or.inl e
    · exact Or.inr e
theorem mtL_ok {M : MM} {p : Nat} : ∀ (d k : Nat) (e : Option Nat), (∀ q, e = some q → q < k ∧ M.2 9 q = nI p) → ∀ q, mtL M p d k e = some q → q < k + d ∧ M.2 9 q = nI p := by
  intro d
  induction d with
  | zero => intro k e he q hq; exact he q hq
  | succ d ih =>
    intro k e he q hq
    rw [mtL] at hq
    have := ih (k + 1) (mt1 M p k e) (fun q' hq' => ?_) q hq
    · exact ⟨by omega, this.2⟩
    · unfold mt1 at hq'
      by_cases z : M.2 9 k = nI p ∧ mbet M k e = true
      · rw [if_pos z] at hq'
        cases hq'
        exact ⟨by omega, z.1⟩
      · rw [if_neg z] at hq'
        have := he q' hq'
        exact ⟨by omega, this.2⟩
theorem MVal_take {M : MM} {Nb p : Nat} {ss : Nat → Nat} (v : MVal M Nb ss) (hp : p < 3) : MVal (mtake M p) Nb ss := by
  unfold mtake
  cases w : mtL M p 80 0 none with
  | none => exact v
  | some q =>
    obtain ⟨a1, a2⟩ := mtL_ok 80 0 none (fun q z => (by cases z)) q w
    obtain ⟨a3, a4⟩ := v.2.2.1 q (by omega) p hp a2
    refine MVal_e v (fun b => rfl) (fun b => rfl) (fun b => rfl) (fun k hk p' hp' e => ?_) (fun p' hp' => ?_)
    · by_cases z : k = q
      · have : ((-1 : Int32)) = nI p' := by
          rw [← e]
          show _ = (if 9 = 9 ∧ k = q then (-1 : Int32) else M.2 9 k)
          rw [if_pos ⟨rfl, z⟩]
        exact absurd this.symm (one_pos (by omega))
      · have : (mtk M p q).2 9 k = M.2 9 k := by
          show (if 9 = 9 ∧ k = q then (-1 : Int32) else M.2 9 k) = M.2 9 k
          rw [if_neg (fun y => z y.2)]
        rw [← this]; exact e
    · by_cases z : p' = p
      · refine Or.inr (Or.inr ⟨q, by omega, ?_, a3, a4⟩)
        show (if 16 = 16 ∧ p' = p then nI q else M.2 16 p') = nI q
        rw [if_pos ⟨rfl, z⟩]
      · refine Or.inl ?_
        show (if 16 = 16 ∧ p' = p then nI q else M.2 16 p') = M.2 16 p'
        rw [if_neg (fun y => z y.2)]
theorem MVal_st1 {M : MM} {Nb p : Nat} {ss : Nat → Nat} (v : MVal M Nb ss) (hp : p < 3) : MVal (mst1 M p) Nb ss := by
  unfold mst1
  by_cases z : M.2 16 p = -1
  · rw [if_pos z]; exact MVal_take v hp
  · rw [if_neg z]; exact v
theorem MVal_E {M : MM} {Nb p : Nat} {ss : Nat → Nat} (v : MVal M Nb ss) : MVal (mE M ss p).2 Nb ss := by
  unfold mE
  by_cases z : M.2 16 p = -1
  · rw [if_pos z]; exact v
  · rw [if_neg z]
    by_cases y : M.2 17 p - 1 = 0
    · rw [if_pos y]
      have e : ∀ j n, j ≠ 8 → j ≠ 11 → j ≠ 15 → j ≠ 18 → j ≠ 10 → j ≠ 16 → j ≠ 17 → (mfin (mtic M p) p (M.2 16 p).toNatClampNeg (ss ((M.2 16 p).toNatClampNeg / 16))).2 j n = M.2 j n := by
        intro j n h1 h2 h3 h4 h5 h6 h7
        show (if j = 16 ∧ n = p then _ else if j = 10 ∧ n = (M.2 16 p).toNatClampNeg then _ else (mfc (mtic M p) p (M.2 16 p).toNatClampNeg (ss ((M.2 16 p).toNatClampNeg / 16))).2.2 j n) = _
        rw [if_neg (fun y => h6 y.1), if_neg (fun y => h5 y.1)]
        unfold mfc
        rw [mcol_e h1 h2 h3 h4]
        show (if j = 17 ∧ n = p then _ else M.2 j n) = _
        rw [if_neg (fun y => h7 y.1)]
      refine MVal_e v (fun b => e 2 b (by decide) (by decide) (by decide) (by decide) (by decide) (by decide) (by decide)) (fun b => e 3 b (by decide) (by decide) (by decide) (by decide) (by decide) (by decide) (by decide)) (fun b => e 4 b (by decide) (by decide) (by decide) (by decide) (by decide) (by decide) (by decide)) (fun k hk p' hp' q => ?_) (fun p' hp' => ?_)
      · rw [← e 9 k (by decide) (by decide) (by decide) (by decide) (by decide) (by decide) (by decide)]; exact q
      · by_cases x : p' = p
        · refine Or.inr (Or.inl ?_)
          exact if_pos ⟨rfl, x⟩
        · refine Or.inl ?_
          unfold mfin
          rw [mA_2, if_neg (show ¬ ((16 : Nat) = 16 ∧ p' = p) from fun y => x y.2), mA_2, if_neg (show ¬ ((16 : Nat) = 10 ∧ p' = (M.2 16 p).toNatClampNeg) from fun y => absurd y.1 (by decide))]
          show (mfc (mtic M p) p (M.2 16 p).toNatClampNeg (ss ((M.2 16 p).toNatClampNeg / 16))).2.2 16 p' = _
          unfold mfc
          rw [mcol_e (by decide) (by decide) (by decide) (by decide)]
          rfl
    · rw [if_neg y]
      exact MVal_e v (fun b => rfl) (fun b => rfl) (fun b => rfl) (fun k hk p' hp' q => q) (fun p' hp' => Or.inl rfl)
section MOD3
variable {ad : Nat → Nat → Nat → Nat} {T : TT}
theorem lp_mt {M : MM} {S : HS} (h : INV ad (TM T M) S) {p : Nat} (hp : p < 3) {K : Int32 → Int32 → HS → Prop} : ∀ (d i : Nat) (e : Option Nat) (m2 m : Int32), i + d = 80 → m = nI i → (∀ q, e = some q → q < 80) → m2 = (match e with | none => -1 | some q => nI q) → (∀ e', e' = mtL M p d i e → (∀ q, e' = some q → q < 80) → K (match e' with | none => -1 | some q => nI q) (nI 80) S) → wX5_takes_L4 (ad 15 0 0) (nI p) (d + 1) m2 m S K := by
  intro d
  induction d with
  | zero =>
    intro i e m2 m hi hm he e2 k
    subst hm
    subst e2
    obtain rfl : i = 80 := by omega
    exact ⟨fun _ => k e rfl he, fun z => absurd (nI_le (Nat.le_refl 80) (by decide)) z⟩
  | succ d ih =>
    intro i e m2 m hi hm he e2 k
    subst hm
    have step := ih (i + 1) (mt1 M p i e)
    have k' : ∀ e', e' = mtL M p d (i + 1) (mt1 M p i e) → (∀ q, e' = some q → q < 80) → K (match e' with | none => -1 | some q => nI q) (nI 80) S := k
    have hn : i < ml 9 := by show i < 80; omega
    have d16 : ∀ a, a < 80 → nI a / (16 : Int32) = nI (a / 16) := fun a ha => pk_div (d := 16) (by omega) (by omega) (by omega)
    refine ⟨fun z => absurd z (lle (k := 80) (by omega) (by decide)), fun _ => ⟨m_ok h, rd 9 h rfl hn ?_⟩⟩
    rw [mv 9 h rfl hn]
    refine ⟨fun z => ?_, fun z => ⟨fun z2 => ?_, fun z2 => ?_⟩⟩
    · have e1 : mt1 M p i e = e := by unfold mt1; rw [if_neg (fun y => z y.1)]
      rw [e1] at step k'
      exact step m2 _ (by omega) (nI_1 i) he e2 k'
    · have en : e = none := by
        cases e with
        | none => rfl
        | some a => rw [e2] at z2; exact absurd z2 (one_pos (by have := he a rfl; omega))
      subst en
      have e1 : mt1 M p i none = some i := by unfold mt1; rw [if_pos ⟨z, rfl⟩]
      rw [e1] at step k'
      exact step _ _ (by omega) (nI_1 i) (fun q y => by cases y; omega) rfl k'
    · cases e with
      | none => exact absurd e2 z2
      | some a =>
        have ha := he a rfl
        have e2' : m2 = nI a := e2
        subst e2'
        have hx : nI a / (16 : Int32) = nI (a / 16) := d16 a ha
        refine ⟨m_ok h, rd 6 h (d16 i (by omega)) (show i / 16 < 5 by omega) ⟨m_ok h, rd 6 h hx (show a / 16 < 5 by omega) ?_⟩⟩
        rw [mv 6 h (d16 i (by omega)) (show i / 16 < 5 by omega), mv 6 h hx (show a / 16 < 5 by omega)]
        refine ⟨fun y => ?_, fun y => ?_⟩
        · have e1 : mt1 M p i (some a) = some a := by
            unfold mt1
            rw [if_neg (fun w => absurd (of_decide_eq_true w.2) (Int32.not_lt.mpr y))]
          rw [e1] at step k'
          exact step _ _ (by omega) (nI_1 i) he rfl k'
        · have e1 : mt1 M p i (some a) = some i := by
            unfold mt1
            rw [if_pos ⟨z, decide_eq_true (Int32.not_le.mp y)⟩]
          rw [e1] at step k'
          exact step _ _ (by omega) (nI_1 i) (fun q y => by cases y; omega) rfl k'
theorem sm_takes {M : MM} {S : HS} (h : INV ad (TM T M) S) {p Nb : Nat} {ss : Nat → Nat} (v : MVal M Nb ss) (hp : p < 3) {Q : HS → Prop} (k : ∀ S', INV ad (TM T (mtake M p)) S' → Q S') : wX5_takes (ad 15 0 0) (nI p) S Q := by
  refine ⟨81, lp_mt h hp 80 0 none (-1) 0 rfl nI_0.symm (fun q z => (by cases z)) rfl (fun e' he' h80 => ⟨fun z => ?_, fun z => ?_⟩)⟩
  · have en : e' = none := by
      cases e' with
      | none => rfl
      | some a => exact absurd z (one_pos (by have := h80 a rfl; omega))
    refine k S ?_
    unfold mtake
    rw [← he', en]
    exact h
  · cases e' with
    | none => exact absurd rfl z
    | some q =>
      have hq := h80 q rfl
      obtain ⟨-, a2⟩ := mtL_ok 80 0 none (fun q z => (by cases z)) q he'.symm
      obtain ⟨a3, a4⟩ := v.2.2.1 q hq p hp a2
      have g := v.2.1 (q / 16) a3
      have hb : q / 16 < 5 := by omega
      refine ⟨m_ok h, rd 9 h rfl (show q < 80 from hq) (fun S2 e2 => ?_)⟩
      have h2 := ms 9 h rfl (show q < 80 from hq) e2
      refine ⟨m_ok h2, rd 16 h2 rfl hp (fun S3 e3 => ?_)⟩
      have h3 := ms 16 h2 rfl hp e3
      have g3 : GEO (mA (mA M 9 q (-1)) 16 p (nI q)) (q / 16) (gC M (q / 16)) (gW M (q / 16)) (gO M (q / 16)) (ss (q / 16)) := g
      refine ⟨m_ok h3, fun o6 e6 => ⟨m_ok h3, ?_⟩⟩
      dsimp only
      rw [show nI q - nI q / (16 : Int32) * (16 : Int32) = nI (q % 16) from pk_rem (d := 16) (by omega) (by omega) (by omega), show nI q / (16 : Int32) = nI (q / 16) from pk_div (d := 16) (by omega) (by omega) (by omega)]
      refine sm_end h3 g3 hb (by omega) rfl ⟨m_ok h3, sm_first h3 g3 hb rfl ⟨_, e6.trans (rf 17 h3), rq 17 h3 rfl hp (fun S6 e7 => ?_)⟩⟩
      have h6 := ms 17 h3 rfl hp e7
      refine k S6 ?_
      unfold mtake
      rw [← he']
      exact h6
theorem lp_mst {K : Int32 → HS → Prop} {Nb : Nat} {ss : Nat → Nat} {c1 : Int32} : ∀ (d p : Nat) (m : Int32) (M : MM) (S : HS), INV ad (TM T M) S → MVal M Nb ss → p + d = 3 → m = nI p → (∀ S', INV ad (TM T (mstL d p M)) S' → MVal (mstL d p M) Nb ss → K (nI 3) S') → wX5_goesOn_L4 (ad 15 0 0) c1 (d + 1) m S K := by
  intro d
  induction d with
  | zero =>
    intro p m M S h v hi hm k
    subst hm
    obtain rfl : p = 3 := by omega
    exact ⟨fun _ => k S h v, fun z => absurd (nI_le (Nat.le_refl 3) (by decide)) z⟩
  | succ d ih =>
    intro p m M S h v hi hm k
    subst hm
    have hp : p < 3 := by omega
    refine ⟨fun z => absurd z (lle (k := 3) hp (by decide)), fun _ => ⟨m_ok h, rd 16 h rfl hp ?_⟩⟩
    rw [mv 16 h rfl hp]
    refine ⟨fun z => ?_, fun z => ⟨m_ok h, sm_takes h v hp (fun S1 h1 => ?_)⟩⟩
    · have e1 : mst1 M p = M := by unfold mst1; rw [if_neg z]
      rw [mstL, e1] at k
      exact ih (p + 1) _ M S h v (by omega) (nI_1 p) k
    · have e1 : mst1 M p = mtake M p := by unfold mst1; rw [if_pos z]
      rw [mstL, e1] at k
      exact ih (p + 1) _ _ S1 h1 (MVal_take v hp) (by omega) (nI_1 p) k
theorem lp_mdos {C W O N p b k c : Nat} {m4 : Int32} (hp : p < 3) (hb : b < 5) (hk : k < N) (hc : c < 32) {K : Int32 → HS → Prop} : ∀ (d r : Nat) (m : Int32) (M : MM) (S : HS), INV ad (TM T M) S → GEO M b C W O N → r + d = 8 → m = nI r → (∀ S', INV ad (TM T (mdos C W O N p b k c d r M)) S' → K (nI 8) S') → wX5_finishes_L45 (ad 15 0 0) (nI p) (nI b) (nI k) m4 (nI c) (d + 1) m S K := by
  intro d
  induction d with
  | zero =>
    intro r m M S h g hr hm kk
    subst hm
    obtain rfl : r = 8 := by omega
    exact ⟨fun _ => kk S h, fun z => absurd (nI_le (Nat.le_refl 8) (by decide)) z⟩
  | succ d ih =>
    intro r m M S h g hr hm kk
    subst hm
    exact ⟨fun z => absurd z (lle (k := 8) (by omega) (by decide)), fun _ => ⟨m_ok h, sm_lays h g hb hk (by omega) hc ⟨m_ok h, sm_wants h hp (by omega) (fun S4 h4 => ih (r + 1) _ _ S4 h4 g (by omega) (nI_1 r) kk)⟩⟩⟩
theorem lp_mlay {p b k c : Nat} (hp : p < 3) (hb : b < 5) (hk : k < 16) (hc : c < 32) {K : Int32 → Int32 → HS → Prop} : ∀ (d r : Nat) (g m : Int32) (M : MM) (S : HS), INV ad (TM T M) S → r + d = 8 → m = nI r → (∀ S', INV ad (TM T (mlay p b k c d r g M).2) S' → K (mlay p b k c d r g M).1 (nI 8) S') → wX5_finishes_L78 (ad 15 0 0) (nI p) (nI b) (nI k) (nI c) (d + 1) g m S K := by
  intro d
  induction d with
  | zero =>
    intro r g m M S h hr hm kk
    subst hm
    obtain rfl : r = 8 := by omega
    exact ⟨fun _ => kk S h, fun z => absurd (nI_le (Nat.le_refl 8) (by decide)) z⟩
  | succ d ih =>
    intro r g m M S h hr hm kk
    subst hm
    have hn : 1280 * (k % 2) + (256 * b + 32 * r + c) < ml 8 := by show _ < 2560; omega
    refine ⟨fun z => absurd z (lle (k := 8) (by omega) (by decide)), fun _ => ⟨m_ok h, sm_nozzle h hp (by omega) ⟨m_ok h, fun o3 e3 => ⟨m_ok h, sm_place (by omega) ⟨_, e3.trans (rf 8 h), rq 8 h rfl hn (fun S8 e8 => ?_)⟩⟩⟩⟩⟩
    have h8 := ms 8 h rfl hn e8
    refine ⟨m_ok h8, rd 15 h8 rfl hp (rq 15 h8 rfl hp (fun S9 e9 => ?_))⟩
    rw [mv 15 h8 rfl hp] at e9
    have h9 := ms 15 h8 rfl hp e9
    refine ⟨m_ok h9, rd 11 h9 rfl hb (rq 11 h9 rfl hb (fun S10 e10 => ?_))⟩
    rw [mv 11 h9 rfl hb] at e10
    have h10 := ms 11 h9 rfl hb e10
    refine ⟨fun z => ?_, fun z => ?_⟩
    · rw [mlay, if_neg (Int32.not_lt.mpr z)] at kk
      exact ih (r + 1) _ _ _ S10 h10 (by omega) (nI_1 r) kk
    · rw [mlay, if_pos (Int32.not_le.mp z)] at kk
      exact ih (r + 1) _ _ _ S10 h10 (by omega) (nI_1 r) kk
theorem lp_mcol {C W O N p b k : Nat} (hp : p < 3) (hb : b < 5) (hk : k < N) {K : Int32 → Int32 → HS → Prop} : ∀ (d c : Nat) (g m : Int32) (M : MM) (S : HS), INV ad (TM T M) S → GEO M b C W O N → c + d = eN C W O k → m = nI c → (∀ S', INV ad (TM T (mcol C W O N p b k d c g M).2) S' → K (mcol C W O N p b k d c g M).1 (nI (eN C W O k)) S') → wX5_finishes_L31 (ad 15 0 0) (nI p) (nI b) (nI k) (d + 1) g m S K := by
  intro d
  induction d with
  | zero =>
    intro c g m M S h ge hc hm kk
    have n16 := ge.2.2.2.2.2.2.2.2.2.1
    have he : eN C W O k ≤ 32 := by have := ge.2.2.2.2.1; unfold eN; split <;> omega
    subst hm
    refine ⟨m_ok h, sm_end h ge hb (by omega) rfl ⟨fun _ => ?_, fun z => absurd (nI_le (by omega) (by omega)) z⟩⟩
    rw [mcol] at kk
    rw [show c = eN C W O k from by omega]
    exact kk S h
  | succ d ih =>
    intro c g m M S h ge hc hm kk
    have n16 := ge.2.2.2.2.2.2.2.2.2.1
    have he : eN C W O k ≤ 32 := by have := ge.2.2.2.2.1; unfold eN; split <;> omega
    subst hm
    refine ⟨m_ok h, sm_end h ge hb (by omega) rfl ⟨fun z => absurd z (nI_ge (by omega) (by omega)), fun _ => ⟨9, lp_mdos hp hb hk (by omega) 8 0 0 M S h ge rfl nI_0.symm (fun S5 h5 => ⟨9, lp_mlay hp hb (by omega) (by omega) 8 0 g 0 _ S5 h5 rfl nI_0.symm (fun S11 h11 => ?_)⟩)⟩⟩⟩
    have ge2 : GEO (mlay p b k c 8 0 g (mdos C W O N p b k c 8 0 M)).2 b C W O N := by
      refine GEO_e ge ?_ ?_ ?_ <;> rw [mlay_e (by decide) (by decide) (by decide), mdos_e (by decide)]
    exact ih (c + 1) _ _ _ S11 h11 ge2 (by omega) (nI_1 c) kk
theorem sm_finishes {M : MM} {S : HS} (h : INV ad (TM T M) S) {p q Nb : Nat} {ss : Nat → Nat} (v : MVal M Nb ss) (hp : p < 3) (hq : q < 80) (e : M.2 16 p = nI q) (a3 : q / 16 < Nb) (a4 : q % 16 < ss (q / 16)) {Q : HS → Prop} (k : ∀ S', INV ad (TM T (mfin M p q (ss (q / 16)))) S' → Q S') : wX5_finishes (ad 15 0 0) (nI p) S Q := by
  have g := v.2.1 (q / 16) a3
  have hb : q / 16 < 5 := by omega
  have d1 : nI q / (16 : Int32) = nI (q / 16) := pk_div (d := 16) (by omega) (by omega) (by omega)
  have d2 : nI q - nI q / (16 : Int32) * (16 : Int32) = nI (q % 16) := pk_rem (d := 16) (by omega) (by omega) (by omega)
  refine ⟨m_ok h, rd 16 h rfl hp ⟨m_ok h, rd 16 h rfl hp ⟨m_ok h, ?_⟩⟩⟩
  rw [mv 16 h rfl hp, e, d2, d1]
  have c1 := kst (k := q % 16) (O := gO M (q / 16)) (by omega) g.2.2.2.2.2.2.1
  have c2 : q % 16 * (gW M (q / 16) - gO M (q / 16)) ≤ eN (gC M (q / 16)) (gW M (q / 16)) (gO M (q / 16)) (q % 16) := by
    unfold eN
    by_cases z : q % 16 * (gW M (q / 16) - gO M (q / 16)) + gW M (q / 16) < gC M (q / 16)
    · rw [if_pos z]; omega
    · rw [if_neg z]
      rcases Nat.eq_zero_or_pos (q % 16) with y | y
      · rw [y]; omega
      · have := g.2.2.2.2.2.2.2.2.2.2.1 (q % 16) y a4
        have e1 : q % 16 * (gW M (q / 16) - gO M (q / 16)) = (q % 16 - 1) * (gW M (q / 16) - gO M (q / 16)) + (gW M (q / 16) - gO M (q / 16)) := by
          conv => lhs; rw [show q % 16 = (q % 16 - 1) + 1 from by omega]
          rw [Nat.succ_mul]
        omega
  refine sm_first h g hb rfl ⟨_, lp_mcol hp hb a4 (eN (gC M (q / 16)) (gW M (q / 16)) (gO M (q / 16)) (q % 16) - q % 16 * (gW M (q / 16) - gO M (q / 16))) _ 0 _ M S h g (by omega) rfl (fun S12 h12 => ?_)⟩
  have e12 : ∀ M', M' = mfc M p q (ss (q / 16)) → M'.2.2 16 p = nI q := by
    intro M' e'
    rw [e']
    unfold mfc
    rw [mcol_e (by decide) (by decide) (by decide) (by decide)]
    exact e
  have h12' : INV ad (TM T (mfc M p q (ss (q / 16))).2) S12 := h12
  have ev := e12 _ rfl
  refine ⟨m_ok h12', fun o6 e6 => ⟨m_ok h12', fun o7 e7 => ⟨_, e7.trans (rf 16 h12'), rq 16 h12' rfl hp ⟨m_ok h12', ⟨_, e6.trans (rf 10 h12'), ?_⟩⟩⟩⟩⟩
  rw [mv 16 h12' rfl hp, ev, m_I h12']
  refine rq 10 h12' rfl (show q < 80 from hq) (fun S13 e13 => ?_)
  have h13 := ms 10 h12' rfl (show q < 80 from hq) e13
  refine ⟨m_ok h13, rd 16 h13 rfl hp (fun S14 e14 => ?_)⟩
  have h14 := ms 16 h13 rfl hp e14
  exact k S14 h14
theorem lp_mE {K : Int32 → Int32 → HS → Prop} {Nb : Nat} {ss : Nat → Nat} : ∀ (d p : Nat) (a m : Int32) (M : MM) (S : HS), INV ad (TM T M) S → MVal M Nb ss → p + d = 3 → m = nI p → (∀ S', INV ad (TM T (mEL ss d p a M).2) S' → MVal (mEL ss d p a M).2 Nb ss → K (mEL ss d p a M).1 (nI 3) S') → wX5_goesOn_L42 (ad 15 0 0) (d + 1) a m S K := by
  intro d
  induction d with
  | zero =>
    intro p a m M S h v hi hm k
    subst hm
    obtain rfl : p = 3 := by omega
    exact ⟨fun _ => k S h v, fun z => absurd (nI_le (Nat.le_refl 3) (by decide)) z⟩
  | succ d ih =>
    intro p a m M S h v hi hm k
    subst hm
    have hp : p < 3 := by omega
    have v' := MVal_E (p := p) v
    refine ⟨fun z => absurd z (lle (k := 3) hp (by decide)), fun _ => ⟨m_ok h, rd 16 h rfl hp ?_⟩⟩
    rw [mv 16 h rfl hp]
    refine ⟨fun z => ?_, fun z => ⟨m_ok h, rd 17 h rfl hp (rq 17 h rfl hp (fun S4 e4 => ?_))⟩⟩
    · have e1 : mE M ss p = (0, M) := by unfold mE; rw [if_pos z]
      rw [mEL, e1, if_pos rfl] at k
      exact ih (p + 1) _ _ M S h v (by omega) (nI_1 p) k
    · rw [mv 17 h rfl hp] at e4
      have h4 := ms 17 h rfl hp e4
      have h4' : INV ad (TM T (mtic M p)) S4 := h4
      have e17 : (mtic M p).2 17 p = M.2 17 p - 1 := by
        show (if 17 = 17 ∧ p = p then M.2 17 p - 1 else M.2 17 p) = _
        rw [if_pos ⟨rfl, rfl⟩]
      refine ⟨m_ok h4', rd 17 h4' rfl hp ?_⟩
      rw [mv 17 h4' rfl hp, e17]
      refine ⟨fun y => ?_, fun y => ⟨m_ok h4', ?_⟩⟩
      · have e1 : mE M ss p = (0, mtic M p) := by unfold mE; rw [if_neg z, if_neg y]
        rw [mEL, e1, if_pos rfl] at k
        rw [e1] at v'
        exact ih (p + 1) _ _ _ S4 h4' v' (by omega) (nI_1 p) k
      · rcases v.2.2.2 p hp with x | ⟨q, x1, x2, x3, x4⟩
        · exact absurd x z
        · have vt : MVal (mtic M p) Nb ss := MVal_e v (fun b => rfl) (fun b => rfl) (fun b => rfl) (fun k hk p' hp' q => q) (fun p' hp' => Or.inl rfl)
          have e1 : mE M ss p = (1, mfin (mtic M p) p q (ss (q / 16))) := by unfold mE; rw [if_neg z, if_pos y, x2, nI_clamp (by omega)]
          rw [e1] at v'
          rw [mEL, e1, if_neg (show ¬ (1 : Int32) = 0 from by decide)] at k
          exact sm_finishes h4' vt hp x1 x2 x3 x4 (fun S5 h5 => ih (p + 1) _ _ _ S5 h5 v' (by omega) (nI_1 p) k)
def mgo (ss : Nat → Nat) (M : MM) : Int32 × MM := mEL ss 3 0 0 (mF (mstL 3 0 M) 160 ((mstL 3 0 M).1 160 + 1))
theorem sm_goesOn {M : MM} {S : HS} (h : INV ad (TM T M) S) {Nb : Nat} {ss : Nat → Nat} (v : MVal M Nb ss) {Q : Int32 → HS → Prop} (k : ∀ S', INV ad (TM T (mgo ss M).2) S' → MVal (mgo ss M).2 Nb ss → Q (mgo ss M).1 S') : wX5_goesOn (ad 15 0 0) S Q := by
  refine ⟨4, lp_mst 3 0 0 M S h v rfl nI_0.symm (fun S2 h2 v2 => ⟨m_ok h2, m_ok h2, fun S3 e3 => ?_⟩)⟩
  rw [m_I h2] at e3
  have h3 := mi h2 e3
  exact ⟨4, lp_mE 3 0 0 0 _ S3 h3 (MVal_e v2 (fun b => rfl) (fun b => rfl) (fun b => rfl) (fun k hk p' hp' q => q) (fun p' hp' => Or.inl rfl)) rfl nI_0.symm k⟩
def mpL (ss : Nat → Nat) : Nat → Int32 → MM → Int32 × MM
  | 0, a, M => (a, M)
  | d + 1, a, M => mpL ss d (a + (mgo ss M).1) (mgo ss M).2
theorem lp_mp {t Nb : Nat} {ss : Nat → Nat} (ht : t < 2 ^ 30) {K : Int32 → Int32 → HS → Prop} : ∀ (d i : Nat) (a m : Int32) (M : MM) (S : HS), INV ad (TM T M) S → MVal M Nb ss → i + d = t → m = nI i → (∀ S', INV ad (TM T (mpL ss d a M).2) S' → K (mpL ss d a M).1 (nI t) S') → wX5_pass_L29 (ad 15 0 0) (nI t) (d + 1) a m S K := by
  intro d
  induction d with
  | zero =>
    intro i a m M S h v hi hm k
    subst hm
    obtain rfl : i = t := by omega
    exact ⟨fun _ => k S h, fun z => absurd (nI_le (Nat.le_refl i) (by omega)) z⟩
  | succ d ih =>
    intro i a m M S h v hi hm k
    subst hm
    exact ⟨fun z => absurd z (nI_ge (by omega) (by omega)), fun _ => ⟨m_ok h, sm_goesOn h v (fun S3 h3 v3 => ih (i + 1) _ _ _ S3 h3 v3 (by omega) (nI_1 i) k)⟩⟩
end MOD3
