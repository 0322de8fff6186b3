/-! A new banner: what its constructor makes -/
def lefE (C W O k : Nat) : Nat := if k = 0 then 0 else k * (W - O) + O
def rigS (C W O k : Nat) : Nat := if eN C W O k = C then eN C W O k else k * (W - O) + (W - O)
def BN (S0 : HS) (t0 : Nat → Nat × Nat × Nat) (n C W O : Nat) (lim due : Int32) (q dl rl dd rd pa i : Nat) (sk dk rk : Nat → Nat) (tg : Nat → Nat × Nat × Nat) (S : HS) : Prop :=
  (EXP (fun _ => False) S0 S ∧ (∀ x, x ∈ gL S0 → tg x = t0 x) ∧ q ∉ gL S0 ∧ pa ∉ gL S0) ∧
  (ok S q 0 ∧ tg q = (6, n, 0) ∧ gR S 3 q = some dl ∧ gR S 4 q = some dd ∧ gR S 5 q = some pa ∧ gI S 0 q = nI C ∧ gI S 1 q = lim ∧ gI S 2 q = due ∧ gI S 7 q = 0) ∧
  (DOT S dl rl ∧ tg dl = (7, n, 0) ∧ tg rl = (8, n, 0)) ∧ (DOT S dd rd ∧ tg dd = (9, n, 0) ∧ tg rd = (10, n, 0)) ∧
  (ok S pa 10 ∧ gN S pa = 16 ∧ tg pa = (11, n, 0) ∧ ∀ k, k < 16 → gQ S pa k = if k < i then some (sk k) else none) ∧
  ∀ k, k < i → STR S (sk k) (dk k) (rk k) (nI k) (nI (k * (W - O))) (nI (eN C W O k)) (nI (lefE C W O k)) (nI (rigS C W O k)) ∧ tg (sk k) = (12, n, k) ∧ tg (dk k) = (13, n, k) ∧ tg (rk k) = (14, n, k)
theorem tg_ne {tg : Nat → Nat × Nat × Nat} {a b : Nat} {k1 i1 j1 k2 i2 j2 : Nat} (h1 : tg a = (k1, i1, j1)) (h2 : tg b = (k2, i2, j2)) (hk : k1 ≠ k2) : ¬ a = b := by
  intro y
  rw [y, h2] at h1
  exact hk (congrArg Prod.fst h1).symm
section BNS
variable {S0 : HS} {t0 : Nat → Nat × Nat × Nat} {n C W O : Nat} {lim due : Int32} {q dl rl dd rd pa i : Nat} {sk dk rk : Nat → Nat} {tg : Nat → Nat × Nat × Nat} {S : HS}
theorem bn_step (h : BN S0 t0 n C W O lim due q dl rl dd rd pa i sk dk rk tg S) (hi : i < 16) {x1 x2 x3 x4 x5 : Int32} (e1 : x1 = nI i) (e2 : x2 = nI (i * (W - O))) (e3 : x3 = nI (eN C W O i)) (e4 : x4 = nI (lefE C W O i)) (e5 : x5 = nI (rigS C W O i)) {X : HS → Prop} (k : ∀ sk dk rk tg S', BN S0 t0 n C W O lim due q dl rl dd rd pa (i + 1) sk dk rk tg S' → X S') :
    ok S q 0 ∧ (∀ o2, o2 = gR S 5 q → (∀ q5, q5 ∉ gL S → ∀ S13, S13 = nw S 3 0 q5 → (wX3_init q5 x1 x2 x3 x4 x5 S13 (fun S14 => (∃ q6, o2 = some q6 ∧ (ok S14 q6 10 ∧ vp_in x1 (gN S14 q6) ∧ (ok S14 q5 3 ∧ (∀ S15, S15 = sQ S14 q6 x1.toNatClampNeg (some q5) → X S15)))))))) := by
  subst e1 e2 e3 e4 e5
  obtain ⟨⟨hE, hT, hq0, hp0⟩, ⟨b1, b2, b3, b4, b5, b6, b7, b8, b9⟩, ⟨d1, d2, d3⟩, ⟨f1, f2, f3⟩, ⟨p1, p2, p3, p4⟩, hS⟩ := h
  refine ⟨b1, fun o ho s hs S13 e13 => sp_sinit (by rw [e13]; exact ok_nw) (fun d r S14 hd hr hdr g14 hST => ?_)⟩
  have g13 : EXP (fun _ => False) S S13 := by rw [e13]; exact exp_nw hs
  have gS : EXP (fun _ => False) S S14 := exp_comp g13 g14 (fun x hx z => absurd hx (z ▸ hs))
  have s13 : s ∈ gL S13 := by rw [e13]; exact mem_nw
  have p14 : ok S14 pa 10 := ok_exp p1 gS (fun y => y)
  have N14 : gN S14 pa = 16 := ((gS pa p1.1).2 (fun y => y)).2.1.trans p2
  refine ⟨pa, ho.trans b5, p14, by rw [N14]; exact vp_in_nI hi (by decide), hST.1, fun S15 e15 => ?_⟩
  rw [nI_clamp (by omega)] at e15
  have g15 : EXP (fun x => x = pa) S14 S15 := by rw [e15]; exact exp_sQ
  have gA15 : EXP (fun x => x = pa) S S15 := exp_trans (exp_no gS) g15
  have nm : ∀ x, x ∈ gL S → ¬ x = s ∧ ¬ x = d ∧ ¬ x = r := fun x hx => ⟨ne_new hx hs, ne_new (g13 x hx).1 hd, ne_new (g13 x hx).1 hr⟩
  have tgo : ∀ x, x ∈ gL S → (if x = s then (12, n, i) else if x = d then (13, n, i) else if x = r then (14, n, i) else tg x) = tg x := fun x hx => by
    obtain ⟨z1, z2, z3⟩ := nm x hx
    rw [if_neg z1, if_neg z2, if_neg z3]
  have zds : ¬ d = s := fun y => hd (y ▸ s13)
  have zrs : ¬ r = s := fun y => hr (y ▸ s13)
  refine k (fun k => if k = i then s else sk k) (fun k => if k = i then d else dk k) (fun k => if k = i then r else rk k) (fun x => if x = s then (12, n, i) else if x = d then (13, n, i) else if x = r then (14, n, i) else tg x) S15 ⟨⟨exp_comp hE gA15 (fun x hx z => absurd hx (z ▸ hp0)), fun x hx => (tgo x (hE x hx).1).trans (hT x hx), hq0, hp0⟩, ?_, ?_, ?_, ?_, ?_⟩
  · have zq : ¬ q = pa := tg_ne b2 p3 (by decide)
    obtain ⟨-, -, cI, cR, -⟩ := (gA15 q b1.1).2 zq
    exact ⟨ok_exp b1 gA15 zq, (tgo q b1.1).trans b2, (cR _).trans b3, (cR _).trans b4, (cR _).trans b5, (cI _).trans b6, (cI _).trans b7, (cI _).trans b8, (cI _).trans b9⟩
  · exact ⟨d1.exp gA15 (tg_ne d2 p3 (by decide)) (tg_ne d3 p3 (by decide)), (tgo dl d1.1.1).trans d2, (tgo rl d1.2.2.1.1).trans d3⟩
  · exact ⟨f1.exp gA15 (tg_ne f2 p3 (by decide)) (tg_ne f3 p3 (by decide)), (tgo dd f1.1.1).trans f2, (tgo rd f1.2.2.1.1).trans f3⟩
  · refine ⟨by rw [e15]; exact p14, by rw [e15]; exact N14, (tgo pa p1.1).trans p3, fun k hk => ?_⟩
    rw [e15, gQ_sQ, ((gS pa p1.1).2 (fun y => y)).2.2.2.2.2.1 k, p4 k hk]
    by_cases z : k = i
    · rw [if_pos ⟨rfl, z⟩, if_pos (by omega)]
      show some s = some (if k = i then s else sk k)
      rw [if_pos z]
    · rw [if_neg (fun y => z y.2)]
      by_cases y : k < i
      · rw [if_pos y, if_pos (by omega)]
        show some (sk k) = some (if k = i then s else sk k)
        rw [if_neg z]
      · rw [if_neg y, if_neg (by omega)]
  · intro k hk
    by_cases z : k = i
    · subst z
      dsimp only
      rw [if_pos rfl, if_pos rfl, if_pos rfl, if_pos rfl, if_neg zds, if_pos rfl, if_neg zrs, if_neg (fun y => hdr y.symm), if_pos rfl]
      exact ⟨hST.exp g15 (fun y => hs (y ▸ p1.1)) (fun y => hd (y ▸ (g13 pa p1.1).1)) (fun y => hr (y ▸ (g13 pa p1.1).1)), rfl, rfl, rfl⟩
    · obtain ⟨s1, s2, s3, s4⟩ := hS k (by omega)
      dsimp only
      rw [if_neg z, if_neg z, if_neg z]
      exact ⟨s1.exp gA15 (tg_ne s2 p3 (by decide)) (tg_ne s3 p3 (by decide)) (tg_ne s4 p3 (by decide)), (tgo _ s1.1.1).trans s2, (tgo _ s1.2.2.1.1.1).trans s3, (tgo _ s1.2.2.1.2.2.1.1).trans s4⟩
theorem lp_bn {N : Nat} (g : 4 ≤ C ∧ C ≤ 32 ∧ 2 ≤ W ∧ W ≤ 12 ∧ 2 * O < W ∧ 1 ≤ N ∧ N ≤ 16 ∧ (∀ k, 0 < k → k < N → (k - 1) * (W - O) + W < C) ∧ C ≤ (N - 1) * (W - O) + W) {K : Int32 → Int32 → HS → Prop} : ∀ (d i : Nat) (m8 m : Int32) (sk dk rk : Nat → Nat) (tg : Nat → Nat × Nat × Nat) (S : HS), BN S0 t0 n C W O lim due q dl rl dd rd pa i sk dk rk tg S → i + d = N → m = nI i → m8 = (if i = 0 then 0 else nI (eN C W O (i - 1))) → (∀ sk dk rk tg m8 S', BN S0 t0 n C W O lim due q dl rl dd rd pa N sk dk rk tg S' → K (nI N) m8 S') → wX0_init_L68 q (nI C) (nI W) (nI O) (nI W - nI O) (d + 1) m m8 S K := by
  obtain ⟨g4, g5, g6, g7, g8, g9, g10, g11, g12⟩ := g
  intro d
  induction d with
  | zero =>
    intro i m8 m sk dk rk tg S h hi hm h8 k
    subst hm
    obtain rfl : i = N := by omega
    refine ⟨fun _ => k sk dk rk tg m8 S h, fun z => absurd ?_ z⟩
    rw [h8, if_neg (by omega), show eN C W O (i - 1) = C from by unfold eN; rw [if_neg (by omega)]]
    exact nI_le (Nat.le_refl _) (by omega)
  | succ d ih =>
    intro i m8 m sk dk rk tg S h hi hm h8 k
    subst hm
    have hk := kst (k := i) (O := O) (by omega) g7
    have hpr : ¬ nI C ≤ m8 := by
      rw [h8]
      by_cases z : i = 0
      · rw [if_pos z]; exact nI_nle (by omega) (by omega)
      · rw [if_neg z]
        have := g11 i (by omega) (by omega)
        unfold eN
        rw [if_pos this]
        exact nI_ge this (by omega)
    have hp := h.2.2.2.2.1
    have a1 : nI W - nI O = nI (W - O) := pk_sub (by omega)
    have a2 : nI i * (nI W - nI O) = nI (i * (W - O)) := by rw [a1, pk_mul]
    have a3 : (if nI C < nI i * (nI W - nI O) + nI W then nI C else nI i * (nI W - nI O) + nI W) = nI (eN C W O i) := by
      rw [a2, nI_add]
      unfold eN
      by_cases z : C < i * (W - O) + W
      · rw [if_pos (nI_lt z (by omega)), if_neg (by omega)]
      · rw [if_neg (nI_nlt (by omega) (by omega))]
        by_cases y : i * (W - O) + W < C
        · rw [if_pos y]
        · rw [if_neg y]
          congr 1
          omega
    have eC : eN C W O i = C ∨ (eN C W O i < C ∧ ¬ nI (eN C W O i) = nI C) := by
      by_cases z : i * (W - O) + W < C
      · refine Or.inr ?_
        have : eN C W O i = i * (W - O) + W := if_pos z
        rw [this]
        exact ⟨z, fun y => by have := (nI_eq (by omega) (by omega)).mp y; omega⟩
      · exact Or.inl (if_neg z)
    refine ⟨fun z => absurd z hpr, fun _ => ⟨h.2.1.1, fun o1 eo1 => ⟨pa, eo1.trans h.2.1.2.2.2.2.1, hp.1, fun z => absurd z (by rw [hp.2.1]; exact nI_ge (by omega) (by decide)), fun _ => ?_⟩⟩⟩
    rw [a3, a2]
    have nxt : ∀ sk dk rk tg S', BN S0 t0 n C W O lim due q dl rl dd rd pa (i + 1) sk dk rk tg S' → wX0_init_L68 q (nI C) (nI W) (nI O) (nI W - nI O) (d + 1) (nI i + 1) (nI (eN C W O i)) S' K := fun sk dk rk tg S' h' =>
      ih (i + 1) _ _ sk dk rk tg S' h' (by omega) (nI_1 i) (by rw [if_neg (by omega), Nat.add_sub_cancel]) k
    have l1 : ¬ i = 0 → nI (i * (W - O)) + nI O = nI (lefE C W O i) := fun z => by
      rw [nI_add]
      unfold lefE
      rw [if_neg z]
    have l0 : i = 0 → nI (i * (W - O)) = nI (lefE C W O i) := fun z => by
      unfold lefE
      rw [if_pos z, z, Nat.zero_mul]
    have r1 : ¬ nI (eN C W O i) = nI C → nI (i * (W - O)) + (nI W - nI O) = nI (rigS C W O i) := fun z => by
      rw [a1, nI_add]
      unfold rigS
      rw [if_neg (fun y => z (by rw [y]))]
    have r0 : nI (eN C W O i) = nI C → nI (eN C W O i) = nI (rigS C W O i) := fun z => by
      rcases eC with e | ⟨-, e⟩
      · unfold rigS
        rw [if_pos e]
      · exact absurd z e
    have i0 : nI i = 0 → i = 0 := fun z => by
      rcases Nat.eq_zero_or_pos i with y | y
      · exact y
      · exact absurd z (nI_ne0 y (by omega))
    refine ⟨fun z0 => ⟨fun ze => ?_, fun ze => ?_⟩, fun z0 => ⟨fun ze => ?_, fun ze => ?_⟩⟩
    · exact bn_step h (by omega) rfl rfl rfl (l1 (fun y => z0 (by rw [y]; rfl))) (r1 ze) nxt
    · exact bn_step h (by omega) rfl rfl rfl (l1 (fun y => z0 (by rw [y]; rfl))) (r0 ze) nxt
    · exact bn_step h (by omega) rfl rfl rfl (l0 (i0 z0)) (r1 ze) nxt
    · exact bn_step h (by omega) rfl rfl rfl (l0 (i0 z0)) (r0 ze) nxt
theorem sp_binit {N : Nat} (g : 4 ≤ C ∧ C ≤ 32 ∧ 2 ≤ W ∧ W ≤ 12 ∧ 2 * O < W ∧ 1 ≤ N ∧ N ≤ 16 ∧ (∀ k, 0 < k → k < N → (k - 1) * (W - O) + W < C) ∧ C ≤ (N - 1) * (W - O) + W) (hE : EXP (fun _ => False) S0 S) (hq : ok S q 0) (hq0 : q ∉ gL S0) {Q : HS → Prop} (k : ∀ dl rl dd rd pa sk dk rk tg S', BN S0 t0 n C W O lim due q dl rl dd rd pa N sk dk rk tg S' → gI S' 6 q = nI N → Q S') : wX0_init q (nI C) (nI W) (nI O) lim due S Q := by
  intro dl hdl S1 e1
  have k1 : EXP (fun _ => False) S S1 := by rw [e1]; exact exp_nw hdl
  have q1 : ok S1 q 0 := ok_exp hq k1 (fun y => y)
  have m1 : dl ∈ gL S1 := by rw [e1]; exact mem_nw
  refine sp_dinit (by rw [e1]; exact ok_nw) (fun rl S2 hrl k2 D2 => ?_)
  have z1 : ¬ q = dl := ne_new hq.1 hdl
  have z2 : ¬ q = rl := ne_new q1.1 hrl
  have z3 : ¬ dl = rl := ne_new m1 hrl
  have q2 : ok S2 q 0 := ok_exp q1 k2 z1
  have E2 : EXP (fun _ => False) S0 S2 := exp_comp (exp_trans hE k1) k2 (fun x hx z => absurd (hE x hx).1 (z ▸ hdl))
  refine ⟨q2, fun S3 e3 => ?_⟩
  have k3 : EXP (fun x => x = q) S2 S3 := by rw [e3]; exact exp_sR
  have q3 : ok S3 q 0 := by rw [e3]; exact q2
  have D3 := D2.exp k3 (fun y => z1 y.symm) (fun y => z2 y.symm)
  have E3 : EXP (fun _ => False) S0 S3 := exp_comp E2 k3 (fun x hx z => absurd hx (z ▸ hq0))
  intro dd hdd S4 e4
  have k4 : EXP (fun _ => False) S3 S4 := by rw [e4]; exact exp_nw hdd
  have q4 : ok S4 q 0 := ok_exp q3 k4 (fun y => y)
  have D4 := D3.exp k4 (fun y => y) (fun y => y)
  have m4 : dd ∈ gL S4 := by rw [e4]; exact mem_nw
  have E4 : EXP (fun _ => False) S0 S4 := exp_trans E3 k4
  refine sp_dinit (by rw [e4]; exact ok_nw) (fun rd S5 hrd k5 F5 => ?_)
  have z4 : ¬ q = dd := ne_new q3.1 hdd
  have z5 : ¬ q = rd := ne_new q4.1 hrd
  have z6 : ¬ dl = dd := ne_new D3.1.1 hdd
  have z7 : ¬ rl = dd := ne_new D3.2.2.1.1 hdd
  have z8 : ¬ dl = rd := ne_new D4.1.1 hrd
  have z9 : ¬ rl = rd := ne_new D4.2.2.1.1 hrd
  have z10 : ¬ dd = rd := ne_new m4 hrd
  have q5 : ok S5 q 0 := ok_exp q4 k5 z4
  have D5 := D4.exp k5 z6 z7
  have E5 : EXP (fun _ => False) S0 S5 := exp_comp E4 k5 (fun x hx z => absurd (E3 x hx).1 (z ▸ hdd))
  refine ⟨q5, fun S6 e6 => ?_⟩
  have k6 : EXP (fun x => x = q) S5 S6 := by rw [e6]; exact exp_sR
  have q6 : ok S6 q 0 := by rw [e6]; exact q5
  have D6 := D5.exp k6 (fun y => z1 y.symm) (fun y => z2 y.symm)
  have F6 := F5.exp k6 (fun y => z4 y.symm) (fun y => z5 y.symm)
  have E6 : EXP (fun _ => False) S0 S6 := exp_comp E5 k6 (fun x hx z => absurd hx (z ▸ hq0))
  intro pa hpa S7 e7
  have k7 : EXP (fun _ => False) S6 S7 := by rw [e7]; exact exp_nw hpa
  have q7 : ok S7 q 0 := ok_exp q6 k7 (fun y => y)
  have D7 := D6.exp k7 (fun y => y) (fun y => y)
  have F7 := F6.exp k7 (fun y => y) (fun y => y)
  have z11 : ¬ q = pa := ne_new q6.1 hpa
  have z12 : ¬ dl = pa := ne_new D6.1.1 hpa
  have z13 : ¬ rl = pa := ne_new D6.2.2.1.1 hpa
  have z14 : ¬ dd = pa := ne_new F6.1.1 hpa
  have z15 : ¬ rd = pa := ne_new F6.2.2.1.1 hpa
  have p7 : ok S7 pa 10 := by rw [e7]; exact ok_nw
  have P7 : gN S7 pa = 16 := by rw [e7]; exact n_nw
  have Q7 : ∀ m, gQ S7 pa m = none := fun m => by rw [e7]; exact Q_nw
  have E7 : EXP (fun _ => False) S0 S7 := exp_trans E6 k7
  have hpa0 : pa ∉ gL S0 := fun y => hpa (E6 pa y).1
  refine ⟨q7, fun S8 e8 => ?_⟩
  have k8 : EXP (fun x => x = q) S7 S8 := by rw [e8]; exact exp_sR
  have q8 : ok S8 q 0 := by rw [e8]; exact q7
  refine ⟨q8, fun S9 e9 => ?_⟩
  have k9 : EXP (fun x => x = q) S7 S9 := exp_trans k8 (by rw [e9]; exact exp_sI)
  have q9 : ok S9 q 0 := by rw [e9]; exact q8
  refine ⟨q9, fun S10 e10 => ?_⟩
  have k10 : EXP (fun x => x = q) S7 S10 := exp_trans k9 (by rw [e10]; exact exp_sI)
  have q10 : ok S10 q 0 := by rw [e10]; exact q9
  refine ⟨q10, fun S11 e11 => ?_⟩
  have k11 : EXP (fun x => x = q) S7 S11 := exp_trans k10 (by rw [e11]; exact exp_sI)
  have q11 : ok S11 q 0 := by rw [e11]; exact q10
  refine ⟨q11, fun S12 e12 => ?_⟩
  have k12 : EXP (fun x => x = q) S7 S12 := exp_trans k11 (by rw [e12]; exact exp_sI)
  have q12 : ok S12 q 0 := by rw [e12]; exact q11
  have i12 : gI S12 0 q = nI C ∧ gI S12 1 q = lim ∧ gI S12 2 q = due ∧ gI S12 7 q = 0 := by
    rw [e12, e11, e10, e9]
    simp [gI_sI]
  have R3 : gR S3 3 q = some dl := by rw [e3, gR_sR, if_pos ⟨rfl, rfl⟩]
  have R3a : gR S4 3 q = some dl := ((k4 q q3.1).2 (fun y => y)).2.2.2.1 3 |>.trans R3
  have R3b : gR S5 3 q = some dl := ((k5 q q4.1).2 z4).2.2.2.1 3 |>.trans R3a
  have R6 : gR S6 3 q = some dl ∧ gR S6 4 q = some dd := by
    rw [e6, gR_sR, if_neg (fun y => absurd y.1 (by decide)), gR_sR, if_pos ⟨rfl, rfl⟩]
    exact ⟨R3b, rfl⟩
  have R7 : gR S7 3 q = some dl ∧ gR S7 4 q = some dd := by
    have := ((k7 q q6.1).2 (fun y => y)).2.2.2.1
    exact ⟨(this 3).trans R6.1, (this 4).trans R6.2⟩
  have r12 : gR S12 3 q = some dl ∧ gR S12 4 q = some dd ∧ gR S12 5 q = some pa := by
    rw [e12, e11, e10, e9, e8]
    simp only [gR_sI, gR_sR]
    rw [if_neg (fun y => absurd y.1 (by decide)), if_neg (fun y => absurd y.1 (by decide)), if_pos ⟨trivial, trivial⟩]
    exact ⟨R7.1, R7.2, rfl⟩
  have E12 : EXP (fun _ => False) S0 S12 := exp_comp E7 k12 (fun x hx z => absurd hx (z ▸ hq0))
  obtain ⟨c1, c2, -, -, -, c6, -⟩ := (k12 pa p7.1).2 (fun y => z11 y.symm)
  have o1 : ∀ x, x ∈ gL S0 → (¬ x = q ∧ ¬ x = dl ∧ ¬ x = rl) ∧ ¬ x = dd ∧ ¬ x = rd ∧ ¬ x = pa := fun x hx =>
    ⟨⟨ne_new hx hq0, ne_new (hE x hx).1 hdl, ne_new (exp_trans hE k1 x hx).1 hrl⟩, ne_new (E3 x hx).1 hdd, ne_new (E4 x hx).1 hrd, ne_new hx hpa0⟩
  have B : BN S0 t0 n C W O lim due q dl rl dd rd pa 0 (fun _ => 0) (fun _ => 0) (fun _ => 0) (fun x => if x = q then (6, n, 0) else if x = dl then (7, n, 0) else if x = rl then (8, n, 0) else if x = dd then (9, n, 0) else if x = rd then (10, n, 0) else if x = pa then (11, n, 0) else t0 x) S12 := by
    refine ⟨⟨E12, fun x hx => ?_, hq0, hpa0⟩, ⟨q12, if_pos rfl, r12.1, r12.2.1, r12.2.2, i12.1, i12.2.1, i12.2.2.1, i12.2.2.2⟩, ⟨D7.exp k12 (fun y => z1 y.symm) (fun y => z2 y.symm), ?_, ?_⟩, ⟨F7.exp k12 (fun y => z4 y.symm) (fun y => z5 y.symm), ?_, ?_⟩, ⟨ok_exp p7 k12 (fun y => z11 y.symm), c2.trans P7, ?_, fun k hk => ?_⟩, fun k hk => absurd hk (by omega)⟩
    · obtain ⟨⟨y1, y2, y3⟩, y4, y5, y6⟩ := o1 x hx
      dsimp only
      rw [if_neg y1, if_neg y2, if_neg y3, if_neg y4, if_neg y5, if_neg y6]
    · dsimp only
      rw [if_neg (fun y => z1 y.symm), if_pos rfl]
    · dsimp only
      rw [if_neg (fun y => z2 y.symm), if_neg (fun y => z3 y.symm), if_pos rfl]
    · dsimp only
      rw [if_neg (fun y => z4 y.symm), if_neg (fun y => z6 y.symm), if_neg (fun y => z7 y.symm), if_pos rfl]
    · dsimp only
      rw [if_neg (fun y => z5 y.symm), if_neg (fun y => z8 y.symm), if_neg (fun y => z9 y.symm), if_neg (fun y => z10 y.symm), if_pos rfl]
    · dsimp only
      rw [if_neg (fun y => z11 y.symm), if_neg (fun y => z12 y.symm), if_neg (fun y => z13 y.symm), if_neg (fun y => z14 y.symm), if_neg (fun y => z15 y.symm), if_pos rfl]
    · rw [if_neg (by omega), c6 k]
      exact Q7 k
  refine ⟨N + 1, by have := g.2.2.2.2.2.2.1; omega, lp_bn g N 0 0 0 _ _ _ _ S12 B (by omega) nI_0.symm (by rw [if_pos rfl]) (fun sk dk rk tg m8 S25 h25 => ?_)⟩
  obtain ⟨⟨hE, hT, hq0, hp0⟩, ⟨b1, b2, b3, b4, b5, b6, b7, b8, b9⟩, ⟨d1, d2, d3⟩, ⟨f1, f2, f3⟩, ⟨p1, p2, p3, p4⟩, hS⟩ := h25
  refine ⟨b1, fun S26 e26 => ?_⟩
  have k26 : EXP (fun x => x = q) S25 S26 := by rw [e26]; exact exp_sI
  have zp : ¬ pa = q := tg_ne p3 b2 (by decide)
  obtain ⟨-, y2, -, -, -, y6, -⟩ := (k26 pa p1.1).2 zp
  refine k dl rl dd rd pa sk dk rk tg S26 ⟨⟨exp_comp hE k26 (fun x hx z => absurd hx (z ▸ hq0)), hT, hq0, hp0⟩, ⟨by rw [e26]; exact b1, b2, by rw [e26]; exact b3, by rw [e26]; exact b4, by rw [e26]; exact b5, ?_, ?_, ?_, ?_⟩, ⟨d1.exp k26 (tg_ne d2 b2 (by decide)) (tg_ne d3 b2 (by decide)), d2, d3⟩, ⟨f1.exp k26 (tg_ne f2 b2 (by decide)) (tg_ne f3 b2 (by decide)), f2, f3⟩, ⟨ok_exp p1 k26 zp, y2.trans p2, p3, fun k hk => (y6 k).trans (p4 k hk)⟩, fun k hk => ?_⟩ ?_
  · rw [e26, gI_sI, if_neg (fun y => absurd y.1 (by decide))]; exact b6
  · rw [e26, gI_sI, if_neg (fun y => absurd y.1 (by decide))]; exact b7
  · rw [e26, gI_sI, if_neg (fun y => absurd y.1 (by decide))]; exact b8
  · rw [e26, gI_sI, if_neg (fun y => absurd y.1 (by decide))]; exact b9
  · obtain ⟨s1, s2, s3, s4⟩ := hS k hk
    exact ⟨s1.exp k26 (tg_ne s2 b2 (by decide)) (tg_ne s3 b2 (by decide)) (tg_ne s4 b2 (by decide)), s2, s3, s4⟩
  · rw [e26, gI_sI, if_pos ⟨rfl, rfl⟩]
end BNS
