/-! New things: what stays, and what a constructor makes -/
def same (S S' : HS) (a : Nat) : Prop := gK S' a = gK S a ∧ gN S' a = gN S a ∧ (∀ c, gI S' c a = gI S c a) ∧ (∀ c, gR S' c a = gR S c a) ∧ (∀ n, gA S' a n = gA S a n) ∧ (∀ n, gQ S' a n = gQ S a n) ∧ (∀ n, gJ S' a n = gJ S a n) ∧ ∀ n, gD S' a n = gD S a n
def EXP (E : Nat → Prop) (S S' : HS) : Prop := ∀ x, x ∈ gL S → x ∈ gL S' ∧ (¬ E x → same S S' x)
section FRM
variable {S S' S'' : HS} {E : Nat → Prop} {a b q k n c : Nat}
theorem same_rfl : same S S a := ⟨rfl, rfl, fun _ => rfl, fun _ => rfl, fun _ => rfl, fun _ => rfl, fun _ => rfl, fun _ => rfl⟩
theorem same_trans (h : same S S' a) (g : same S' S'' a) : same S S'' a := by
  obtain ⟨a1, a2, a3, a4, a5, a6, a7, a8⟩ := h
  obtain ⟨b1, b2, b3, b4, b5, b6, b7, b8⟩ := g
  exact ⟨b1.trans a1, b2.trans a2, fun c => (b3 c).trans (a3 c), fun c => (b4 c).trans (a4 c), fun c => (b5 c).trans (a5 c), fun c => (b6 c).trans (a6 c), fun c => (b7 c).trans (a7 c), fun c => (b8 c).trans (a8 c)⟩
theorem exp_rfl : EXP E S S := fun x hx => ⟨hx, fun _ => same_rfl⟩
theorem exp_trans (h : EXP E S S') (g : EXP E S' S'') : EXP E S S'' := fun x hx => ⟨(g x (h x hx).1).1, fun y => same_trans ((h x hx).2 y) ((g x (h x hx).1).2 y)⟩
theorem exp_comp {E' : Nat → Prop} (h : EXP E S S') (g : EXP E' S' S'') (he : ∀ x, x ∈ gL S → E' x → E x) : EXP E S S'' := fun x hx => ⟨(g x (h x hx).1).1, fun y => same_trans ((h x hx).2 y) ((g x (h x hx).1).2 (fun z => y (he x hx z)))⟩
theorem exp_mono {E' : Nat → Prop} (h : EXP E S S') (g : ∀ x, x ∈ gL S → E x → E' x) : EXP E' S S' := fun x hx => ⟨(h x hx).1, fun y => (h x hx).2 (fun z => y (g x hx z))⟩
theorem exp_sI {v : Int32} : EXP (fun x => x = a) S (sI S c a v) := fun x hx => ⟨hx, fun y => ⟨rfl, rfl, fun c' => by rw [gI_sI, if_neg (fun z => y z.2)], fun _ => rfl, fun _ => rfl, fun _ => rfl, fun _ => rfl, fun _ => rfl⟩⟩
theorem exp_sR {v : Option Nat} : EXP (fun x => x = a) S (sR S c a v) := fun x hx => ⟨hx, fun y => ⟨rfl, rfl, fun _ => rfl, fun c' => by rw [gR_sR, if_neg (fun z => y z.2)], fun _ => rfl, fun _ => rfl, fun _ => rfl, fun _ => rfl⟩⟩
theorem exp_sA {v : Int32} : EXP (fun x => x = a) S (sA S a n v) := fun x hx => ⟨hx, fun y => ⟨rfl, rfl, fun _ => rfl, fun _ => rfl, fun c' => by rw [gA_sA, if_neg (fun z => y z.1)], fun _ => rfl, fun _ => rfl, fun _ => rfl⟩⟩
theorem exp_sQ {v : Option Nat} : EXP (fun x => x = a) S (sQ S a n v) := fun x hx => ⟨hx, fun y => ⟨rfl, rfl, fun _ => rfl, fun _ => rfl, fun _ => rfl, fun c' => by rw [gQ_sQ, if_neg (fun z => y z.1)], fun _ => rfl, fun _ => rfl⟩⟩
theorem exp_nw (hq : q ∉ gL S) : EXP (fun _ => False) S (nw S k n q) := fun x hx => by
  have z : ¬ x = q := fun y => hq (y ▸ hx)
  exact ⟨List.mem_append_left _ hx, fun _ => ⟨by rw [gK_nw, if_neg z], by rw [gN_nw, if_neg z], fun c' => by rw [gI_nw, if_neg z], fun c' => by rw [gR_nw, if_neg z], fun c' => by rw [gA_nw, if_neg z], fun c' => by rw [gQ_nw, if_neg z], fun c' => by rw [gJ_nw, if_neg z], fun c' => by rw [gD_nw, if_neg z]⟩⟩
theorem exp_no (h : EXP (fun _ => False) S S') : EXP E S S' := exp_mono h (fun _ _ z => z.elim)
theorem mem_nw : q ∈ gL (nw S k n q) := List.mem_append_right _ (List.mem_singleton.mpr rfl)
theorem ok_nw : ok (nw S k n q) q k := ⟨mem_nw, by rw [gK_nw, if_pos rfl]⟩
theorem ok_exp (h : ok S a k) (g : EXP E S S') (he : ¬ E a) : ok S' a k := ⟨(g a h.1).1, ((g a h.1).2 he).1.trans h.2⟩
theorem n_nw : gN (nw S k n q) q = n := by rw [gN_nw, if_pos rfl]
theorem A_nw {m : Nat} : gA (nw S k n q) q m = 0 := by rw [gA_nw, if_pos rfl]
theorem Q_nw {m : Nat} : gQ (nw S k n q) q m = none := by rw [gQ_nw, if_pos rfl]
theorem I_nw {m : Nat} : gI (nw S k n q) m q = 0 := by rw [gI_nw, if_pos rfl]
theorem ne_new (h : a ∈ gL S) (hq : q ∉ gL S) : ¬ a = q := fun y => hq (y ▸ h)
end FRM
/-- an int array of length n, all 0 -/
def ARR (S : HS) (r kd n : Nat) : Prop := ok S r kd ∧ gN S r = n ∧ ∀ m, gA S r m = 0
theorem ARR.exp {S S' : HS} {E : Nat → Prop} {r kd n : Nat} (h : ARR S r kd n) (g : EXP E S S') (he : ¬ E r) : ARR S' r kd n := by
  obtain ⟨a1, a2, a3⟩ := h
  obtain ⟨b1, b2, b3, b4, b5, b6, -⟩ := (g r a1.1).2 he
  exact ⟨ok_exp a1 g he, b2.trans a2, fun m => (b5 m).trans (a3 m)⟩
theorem ARR_nw {S : HS} {q kd n : Nat} : ARR (nw S kd n q) q kd n := ⟨ok_nw, n_nw, fun _ => A_nw⟩
def DOT (S : HS) (d r : Nat) : Prop := ok S d 1 ∧ gR S 32 d = some r ∧ ARR S r 6 256
theorem DOT.exp {S S' : HS} {E : Nat → Prop} {d r : Nat} (h : DOT S d r) (g : EXP E S S') (hd : ¬ E d) (hr : ¬ E r) : DOT S' d r := by
  obtain ⟨a1, a2, a3⟩ := h
  obtain ⟨b1, b2, b3, b4, -⟩ := (g d a1.1).2 hd
  exact ⟨ok_exp a1 g hd, (b4 32).trans a2, a3.exp g hr⟩
theorem sp_dinit {S : HS} {a0 : Nat} {Q : HS → Prop} (h : ok S a0 1) (k : ∀ r S', r ∉ gL S → EXP (fun x => x = a0) S S' → DOT S' a0 r → Q S') : wX1_init a0 S Q := by
  intro r hr S1 e1
  have z : ¬ a0 = r := ne_new h.1 hr
  have g1 : EXP (fun _ => False) S S1 := by rw [e1]; exact exp_nw hr
  have h1 : ok S1 a0 1 := ok_exp h g1 (fun y => y)
  refine ⟨h1, fun S2 e2 => k r S2 hr ?_ ?_⟩
  · rw [e2]; exact exp_trans (exp_no g1) exp_sR
  · have g2 : EXP (fun x => x = a0) S1 S2 := by rw [e2]; exact exp_sR
    have hA : ARR S1 r 6 256 := by rw [e1]; exact ARR_nw
    refine ⟨by rw [e2]; exact h1, by rw [e2, gR_sR, if_pos ⟨rfl, rfl⟩], hA.exp g2 (fun y => z y.symm)⟩
def STR (S : HS) (s d r : Nat) (x1 x2 x3 x4 x5 : Int32) : Prop := ok S s 3 ∧ gR S 101 s = some d ∧ DOT S d r ∧ gI S 96 s = x1 ∧ gI S 97 s = x2 ∧ gI S 98 s = x3 ∧ gI S 99 s = x4 ∧ gI S 100 s = x5 ∧ gI S 102 s = -1 ∧ gI S 103 s = 0 ∧ gI S 104 s = -1
theorem STR.exp {S S' : HS} {E : Nat → Prop} {s d r : Nat} {x1 x2 x3 x4 x5 : Int32} (h : STR S s d r x1 x2 x3 x4 x5) (g : EXP E S S') (hs : ¬ E s) (hd : ¬ E d) (hr : ¬ E r) : STR S' s d r x1 x2 x3 x4 x5 := by
  obtain ⟨a1, a2, a3, c1, c2, c3, c4, c5, c6, c7, c8⟩ := h
  obtain ⟨b1, b2, b3, b4, -⟩ := (g s a1.1).2 hs
  exact ⟨ok_exp a1 g hs, (b4 _).trans a2, a3.exp g hd hr, (b3 _).trans c1, (b3 _).trans c2, (b3 _).trans c3, (b3 _).trans c4, (b3 _).trans c5, (b3 _).trans c6, (b3 _).trans c7, (b3 _).trans c8⟩
theorem sp_sinit {S : HS} {a0 : Nat} {x1 x2 x3 x4 x5 : Int32} {Q : HS → Prop} (h : ok S a0 3) (k : ∀ d r S', d ∉ gL S → r ∉ gL S → ¬ d = r → EXP (fun x => x = a0) S S' → STR S' a0 d r x1 x2 x3 x4 x5 → Q S') : wX3_init a0 x1 x2 x3 x4 x5 S Q := by
  intro d hd S1 e1
  have zd : ¬ a0 = d := ne_new h.1 hd
  have g1 : EXP (fun _ => False) S S1 := by rw [e1]; exact exp_nw hd
  refine sp_dinit (by rw [e1]; exact ok_nw) (fun r S2 hr g2 hD => ?_)
  have h1 : ok S1 a0 3 := ok_exp h g1 (fun y => y)
  have d1 : d ∈ gL S1 := by rw [e1]; exact mem_nw
  have zr : ¬ a0 = r := ne_new h1.1 hr
  have h2 : ok S2 a0 3 := ok_exp h1 g2 zd
  refine ⟨h2, fun S3 e3 => ?_⟩
  have g3 : EXP (fun x => x = a0) S2 S3 := by rw [e3]; exact exp_sR
  have h3 : ok S3 a0 3 := by rw [e3]; exact h2
  refine ⟨h3, fun S4 e4 => ?_⟩
  have g4 : EXP (fun x => x = a0) S2 S4 := exp_trans g3 (by rw [e4]; exact exp_sI)
  have h4 : ok S4 a0 3 := by rw [e4]; exact h3
  refine ⟨h4, fun S5 e5 => ?_⟩
  have g5 : EXP (fun x => x = a0) S2 S5 := exp_trans g4 (by rw [e5]; exact exp_sI)
  have h5 : ok S5 a0 3 := by rw [e5]; exact h4
  refine ⟨h5, fun S6 e6 => ?_⟩
  have g6 : EXP (fun x => x = a0) S2 S6 := exp_trans g5 (by rw [e6]; exact exp_sI)
  have h6 : ok S6 a0 3 := by rw [e6]; exact h5
  refine ⟨h6, fun S7 e7 => ?_⟩
  have g7 : EXP (fun x => x = a0) S2 S7 := exp_trans g6 (by rw [e7]; exact exp_sI)
  have h7 : ok S7 a0 3 := by rw [e7]; exact h6
  refine ⟨h7, fun S8 e8 => ?_⟩
  have g8 : EXP (fun x => x = a0) S2 S8 := exp_trans g7 (by rw [e8]; exact exp_sI)
  have h8 : ok S8 a0 3 := by rw [e8]; exact h7
  refine ⟨h8, fun S9 e9 => ?_⟩
  have g9 : EXP (fun x => x = a0) S2 S9 := exp_trans g8 (by rw [e9]; exact exp_sI)
  have h9 : ok S9 a0 3 := by rw [e9]; exact h8
  refine ⟨h9, fun S10 e10 => ?_⟩
  have g10 : EXP (fun x => x = a0) S2 S10 := exp_trans g9 (by rw [e10]; exact exp_sI)
  have h10 : ok S10 a0 3 := by rw [e10]; exact h9
  refine ⟨h10, fun S11 e11 => ?_⟩
  have g11 : EXP (fun x => x = a0) S2 S11 := exp_trans g10 (by rw [e11]; exact exp_sI)
  have h11 : ok S11 a0 3 := by rw [e11]; exact h10
  have hE : EXP (fun x => x = a0) S S2 := exp_comp (exp_no g1) g2 (fun x hx z => absurd hx (z ▸ hd))
  refine k d r S11 hd (fun y => hr (g1 r y).1) (fun y => hr (y ▸ d1)) (exp_trans hE g11) ⟨h11, ?_, hD.exp g11 (fun y => zd y.symm) (fun y => zr y.symm), ?_, ?_, ?_, ?_, ?_, ?_, ?_, ?_⟩
  all_goals
    rw [e11, e10, e9, e8, e7, e6, e5, e4, e3]
    simp [gI_sI, gR_sI, gR_sR]
/-- a printer as it is made -/
def PRT (S : HS) (p bl ds : Nat) : Prop := ok S p 2 ∧ gR S 66 p = some bl ∧ ARR S bl 7 8 ∧ gR S 67 p = some ds ∧ ARR S ds 6 8 ∧ gR S 70 p = none ∧ gR S 71 p = none ∧ gI S 64 p = 100 ∧ gI S 65 p = 100 ∧ gI S 68 p = 0 ∧ gI S 69 p = 0 ∧ gI S 72 p = -1 ∧ gI S 73 p = 0
theorem PRT.exp {S S' : HS} {E : Nat → Prop} {p bl ds : Nat} (h : PRT S p bl ds) (g : EXP E S S') (hp : ¬ E p) (hb : ¬ E bl) (hd : ¬ E ds) : PRT S' p bl ds := by
  obtain ⟨a1, a2, a3, a4, a5, a6, a7, c1, c2, c3, c4, c5, c6⟩ := h
  obtain ⟨b1, b2, b3, b4, -⟩ := (g p a1.1).2 hp
  exact ⟨ok_exp a1 g hp, (b4 _).trans a2, a3.exp g hb, (b4 _).trans a4, a5.exp g hd, (b4 _).trans a6, (b4 _).trans a7, (b3 _).trans c1, (b3 _).trans c2, (b3 _).trans c3, (b3 _).trans c4, (b3 _).trans c5, (b3 _).trans c6⟩
theorem sp_pinit {S : HS} {a0 : Nat} {Q : HS → Prop} (h : ok S a0 2) (k : ∀ bl ds S', bl ∉ gL S → ds ∉ gL S → ¬ bl = ds → EXP (fun x => x = a0) S S' → PRT S' a0 bl ds → Q S') : wX2_init a0 S Q := by
  refine ⟨h, fun S1 e1 => ?_⟩
  have g1 : EXP (fun x => x = a0) S S1 := by rw [e1]; exact exp_sI
  have h1 : ok S1 a0 2 := by rw [e1]; exact h
  refine ⟨h1, fun S2 e2 => ?_⟩
  have g2 : EXP (fun x => x = a0) S S2 := exp_trans g1 (by rw [e2]; exact exp_sI)
  have h2 : ok S2 a0 2 := by rw [e2]; exact h1
  intro bl hbl S3 e3
  have zb : ¬ a0 = bl := ne_new h2.1 hbl
  have k3 : EXP (fun _ => False) S2 S3 := by rw [e3]; exact exp_nw hbl
  have g3 : EXP (fun x => x = a0) S S3 := exp_trans g2 (exp_no k3)
  have h3 : ok S3 a0 2 := ok_exp h2 k3 (fun y => y)
  have A3 : ARR S3 bl 7 8 := by rw [e3]; exact ARR_nw
  refine ⟨h3, fun S4 e4 => ?_⟩
  have k4 : EXP (fun x => x = a0) S3 S4 := by rw [e4]; exact exp_sR
  have g4 : EXP (fun x => x = a0) S S4 := exp_trans g3 k4
  have h4 : ok S4 a0 2 := by rw [e4]; exact h3
  have A4 : ARR S4 bl 7 8 := A3.exp k4 (fun y => zb y.symm)
  intro ds hds S5 e5
  have zd : ¬ a0 = ds := ne_new h4.1 hds
  have zz : ¬ bl = ds := ne_new A4.1.1 hds
  have k5 : EXP (fun _ => False) S4 S5 := by rw [e5]; exact exp_nw hds
  have g5 : EXP (fun x => x = a0) S S5 := exp_trans g4 (exp_no k5)
  have h5 : ok S5 a0 2 := ok_exp h4 k5 (fun y => y)
  have A5 : ARR S5 bl 7 8 := A4.exp k5 (fun y => y)
  have B5 : ARR S5 ds 6 8 := by rw [e5]; exact ARR_nw
  refine ⟨h5, fun S6 e6 => ?_⟩
  have k6 : EXP (fun x => x = a0) S5 S6 := by rw [e6]; exact exp_sR
  have h6 : ok S6 a0 2 := by rw [e6]; exact h5
  refine ⟨h6, fun S7 e7 => ?_⟩
  have k7 : EXP (fun x => x = a0) S5 S7 := exp_trans k6 (by rw [e7]; exact exp_sI)
  have h7 : ok S7 a0 2 := by rw [e7]; exact h6
  refine ⟨h7, fun S8 e8 => ?_⟩
  have k8 : EXP (fun x => x = a0) S5 S8 := exp_trans k7 (by rw [e8]; exact exp_sI)
  have h8 : ok S8 a0 2 := by rw [e8]; exact h7
  refine ⟨h8, fun S9 e9 => ?_⟩
  have k9 : EXP (fun x => x = a0) S5 S9 := exp_trans k8 (by rw [e9]; exact exp_sR)
  have h9 : ok S9 a0 2 := by rw [e9]; exact h8
  refine ⟨h9, fun S10 e10 => ?_⟩
  have k10 : EXP (fun x => x = a0) S5 S10 := exp_trans k9 (by rw [e10]; exact exp_sR)
  have h10 : ok S10 a0 2 := by rw [e10]; exact h9
  refine ⟨h10, fun S11 e11 => ?_⟩
  have k11 : EXP (fun x => x = a0) S5 S11 := exp_trans k10 (by rw [e11]; exact exp_sI)
  have h11 : ok S11 a0 2 := by rw [e11]; exact h10
  refine ⟨h11, fun S12 e12 => ?_⟩
  have k12 : EXP (fun x => x = a0) S5 S12 := exp_trans k11 (by rw [e12]; exact exp_sI)
  have h12 : ok S12 a0 2 := by rw [e12]; exact h11
  refine k bl ds S12 (fun y => hbl (g2 bl y).1) (fun y => hds (g4 ds y).1) zz (exp_trans g5 k12) ⟨h12, ?_, A5.exp k12 (fun y => zb y.symm), ?_, B5.exp k12 (fun y => zd y.symm), ?_, ?_, ?_, ?_, ?_, ?_, ?_, ?_⟩
  all_goals
    rw [e12, e11, e10, e9, e8, e7, e6, e5, e4, e3, e2, e1]
    simp [gI_sI, gR_sI, gR_sR, gI_sR, gI_nw, gR_nw, zb, zd]
