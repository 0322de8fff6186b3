/-! The start: the shop, the reference, out and outD -/
def SHP (a b p i : Nat) (pr bl ds : Nat → Nat) (tg : Nat → Nat × Nat × Nat) (S : HS) : Prop :=
  (ok S a 4 ∧ tg a = (0, 0, 0) ∧ gR S 128 a = some b ∧ gR S 129 a = some p ∧ gI S 130 a = 0 ∧ gI S 131 a = 0) ∧
  (ok S b 8 ∧ tg b = (1, 0, 0) ∧ gN S b = 5 ∧ ∀ n, gQ S b n = none) ∧
  (ok S p 9 ∧ tg p = (2, 0, 0) ∧ gN S p = 3 ∧ ∀ k, k < i → gQ S p k = some (pr k)) ∧
  ∀ k, k < i → PRT S (pr k) (bl k) (ds k) ∧ tg (pr k) = (3, k, 0) ∧ tg (bl k) = (4, k, 0) ∧ tg (ds k) = (5, k, 0)
theorem SHP.exp {a b p i : Nat} {pr bl ds : Nat → Nat} {tg tg' : Nat → Nat × Nat × Nat} {S S' : HS} {E : Nat → Prop} (h : SHP a b p i pr bl ds tg S) (g : EXP E S S') (hE : ∀ x, E x → 6 ≤ (tg x).1) (ht : ∀ x, x ∈ gL S → tg' x = tg x) : SHP a b p i pr bl ds tg' S' := by
  obtain ⟨⟨a1, a2, a3, a4, a5, a6⟩, ⟨b1, b2, b3, b4⟩, ⟨p1, p2, p3, p4⟩, hP⟩ := h
  have ne : ∀ x k u v, k < 6 → tg x = (k, u, v) → ¬ E x := fun x k u v hk e y => by
    have := hE x y
    rw [e] at this
    exact absurd this (Nat.not_le.mpr hk)
  have ea := ne a 0 0 0 (by decide) a2
  have eb := ne b 1 0 0 (by decide) b2
  have ep := ne p 2 0 0 (by decide) p2
  obtain ⟨-, -, aI, aR, -⟩ := (g a a1.1).2 ea
  obtain ⟨-, bN, -, -, -, bQ, -⟩ := (g b b1.1).2 eb
  obtain ⟨-, pN, -, -, -, pQ, -⟩ := (g p p1.1).2 ep
  refine ⟨⟨ok_exp a1 g ea, (ht a a1.1).trans a2, (aR _).trans a3, (aR _).trans a4, (aI _).trans a5, (aI _).trans a6⟩, ⟨ok_exp b1 g eb, (ht b b1.1).trans b2, bN.trans b3, fun n => (bQ n).trans (b4 n)⟩, ⟨ok_exp p1 g ep, (ht p p1.1).trans p2, pN.trans p3, fun k hk => (pQ k).trans (p4 k hk)⟩, fun k hk => ?_⟩
  obtain ⟨c1, c2, c3, c4⟩ := hP k hk
  exact ⟨c1.exp g (ne _ 3 k 0 (by decide) c2) (ne _ 4 k 0 (by decide) c3) (ne _ 5 k 0 (by decide) c4), (ht _ c1.1.1).trans c2, (ht _ c1.2.2.1.1.1).trans c3, (ht _ c1.2.2.2.2.1.1.1).trans c4⟩
theorem lp_shop {a b p : Nat} {K : Int32 → HS → Prop} : ∀ (d i : Nat) (m : Int32) (pr bl ds : Nat → Nat) (tg : Nat → Nat × Nat × Nat) (S : HS), SHP a b p i pr bl ds tg S → i + d = 3 → m = nI i → (∀ pr bl ds tg S', SHP a b p 3 pr bl ds tg S' → K (nI 3) S') → wX4_init_L32 a (d + 1) m S K := by
  intro d
  induction d with
  | zero =>
    intro i m pr bl ds tg S h hi hm k
    subst hm
    obtain rfl : i = 3 := by omega
    exact ⟨h.1.1, fun o ho => ⟨p, ho.trans h.1.2.2.2.1, h.2.2.1.1, fun _ => k pr bl ds tg S h, fun z => absurd (by rw [h.2.2.1.2.2.1]; exact nI_le (Nat.le_refl 3) (by decide)) z⟩⟩
  | succ d ih =>
    intro i m pr bl ds tg S h hi hm k
    subst hm
    obtain ⟨⟨a1, a2, a3, a4, a5, a6⟩, ⟨b1, b2, b3, b4⟩, ⟨p1, p2, p3, p4⟩, hP⟩ := id h
    refine ⟨a1, fun o ho => ⟨p, ho.trans a4, p1, fun z => absurd z (by rw [p3]; exact nI_ge (by omega) (by decide)), fun _ => ⟨a1, fun o2 ho2 s hs S7 e7 => ?_⟩⟩⟩
    have g7 : EXP (fun _ => False) S S7 := by rw [e7]; exact exp_nw hs
    have s7 : s ∈ gL S7 := by rw [e7]; exact mem_nw
    refine sp_pinit (by rw [e7]; exact ok_nw) (fun bb dd S8 hbb hdd hbd g8 hPR => ?_)
    have gS : EXP (fun _ => False) S S8 := exp_comp g7 g8 (fun x hx z => absurd hx (z ▸ hs))
    have p8 : ok S8 p 9 := ok_exp p1 gS (fun y => y)
    have N8 : gN S8 p = 3 := ((gS p p1.1).2 (fun y => y)).2.1.trans p3
    refine ⟨p, ho2.trans a4, p8, by rw [N8]; exact vp_in_nI (by omega) (by decide), hPR.1, fun S9 e9 => ?_⟩
    rw [nI_clamp (by omega)] at e9
    have g9 : EXP (fun x => x = p) S8 S9 := by rw [e9]; exact exp_sQ
    have gA : EXP (fun x => x = p) S S9 := exp_trans (exp_no gS) g9
    have tgo : ∀ x, x ∈ gL S → (if x = s then (3, i, 0) else if x = bb then (4, i, 0) else if x = dd then (5, i, 0) else tg x) = tg x := fun x hx => by
      rw [if_neg (ne_new hx hs), if_neg (ne_new (g7 x hx).1 hbb), if_neg (ne_new (g7 x hx).1 hdd)]
    have zb : ¬ bb = s := fun y => hbb (y ▸ s7)
    have zd : ¬ dd = s := fun y => hdd (y ▸ s7)
    refine ih (i + 1) _ (fun k => if k = i then s else pr k) (fun k => if k = i then bb else bl k) (fun k => if k = i then dd else ds k) (fun x => if x = s then (3, i, 0) else if x = bb then (4, i, 0) else if x = dd then (5, i, 0) else tg x) S9 ⟨?_, ?_, ?_, ?_⟩ (by omega) (nI_1 i) k
    · have z : ¬ a = p := tg_ne a2 p2 (by decide)
      obtain ⟨-, -, aI, aR, -⟩ := (gA a a1.1).2 z
      exact ⟨ok_exp a1 gA z, (tgo a a1.1).trans a2, (aR _).trans a3, (aR _).trans a4, (aI _).trans a5, (aI _).trans a6⟩
    · have z : ¬ b = p := tg_ne b2 p2 (by decide)
      obtain ⟨-, bN, -, -, -, bQ, -⟩ := (gA b b1.1).2 z
      exact ⟨ok_exp b1 gA z, (tgo b b1.1).trans b2, bN.trans b3, fun n => (bQ n).trans (b4 n)⟩
    · refine ⟨by rw [e9]; exact p8, (tgo p p1.1).trans p2, by rw [e9]; exact N8, fun k hk => ?_⟩
      rw [e9, gQ_sQ, ((gS p p1.1).2 (fun y => y)).2.2.2.2.2.1 k]
      by_cases z : k = i
      · rw [if_pos ⟨rfl, z⟩]
        show some s = some (if k = i then s else pr k)
        rw [if_pos z]
      · rw [if_neg (fun y => z y.2), p4 k (by omega)]
        show some (pr k) = some (if k = i then s else pr k)
        rw [if_neg z]
    · intro k hk
      by_cases z : k = i
      · subst z
        dsimp only
        rw [if_pos rfl, if_pos rfl, if_pos rfl, if_pos rfl, if_neg zb, if_pos rfl, if_neg zd, if_neg (fun y => hbd y.symm), if_pos rfl]
        exact ⟨hPR.exp g9 (fun y => hs (y ▸ p1.1)) (fun y => hbb (y ▸ (g7 p p1.1).1)) (fun y => hdd (y ▸ (g7 p p1.1).1)), rfl, rfl, rfl⟩
      · obtain ⟨c1, c2, c3, c4⟩ := hP k (by omega)
        dsimp only
        rw [if_neg z, if_neg z, if_neg z]
        exact ⟨c1.exp gA (tg_ne c2 p2 (by decide)) (tg_ne c3 p2 (by decide)) (tg_ne c4 p2 (by decide)), (tgo _ c1.1.1).trans c2, (tgo _ c1.2.2.1.1.1).trans c3, (tgo _ c1.2.2.2.2.1.1.1).trans c4⟩
theorem sp_shop {a : Nat} {S : HS} {Q : HS → Prop} (h : ok S a 4) (k : ∀ b p pr bl ds tg S', SHP a b p 3 pr bl ds tg S' → Q S') : wX4_init a S Q := by
  intro b hb S1 e1
  have k1 : EXP (fun _ => False) S S1 := by rw [e1]; exact exp_nw hb
  have h1 : ok S1 a 4 := ok_exp h k1 (fun y => y)
  have zb : ¬ a = b := ne_new h.1 hb
  refine ⟨h1, fun S2 e2 => ?_⟩
  have h2 : ok S2 a 4 := by rw [e2]; exact h1
  intro p hp S3 e3
  have zp : ¬ a = p := ne_new h2.1 hp
  have k2 : EXP (fun x => x = a) S1 S2 := by rw [e2]; exact exp_sR
  have b1 : ok S1 b 8 := by rw [e1]; exact ok_nw
  have b2 : ok S2 b 8 := by rw [e2]; exact b1
  have zbp : ¬ b = p := ne_new b2.1 hp
  have k3 : EXP (fun _ => False) S2 S3 := by rw [e3]; exact exp_nw hp
  have h3 : ok S3 a 4 := ok_exp h2 k3 (fun y => y)
  have b3 : ok S3 b 8 := ok_exp b2 k3 (fun y => y)
  have p3 : ok S3 p 9 := by rw [e3]; exact ok_nw
  refine ⟨h3, fun S4 e4 => ?_⟩
  have h4 : ok S4 a 4 := by rw [e4]; exact h3
  refine ⟨h4, fun S5 e5 => ?_⟩
  have h5 : ok S5 a 4 := by rw [e5]; exact h4
  refine ⟨h5, fun S6 e6 => ?_⟩
  have h6 : ok S6 a 4 := by rw [e6]; exact h5
  refine ⟨4, by decide, lp_shop 3 0 0 (fun _ => 0) (fun _ => 0) (fun _ => 0) (fun x => if x = a then (0, 0, 0) else if x = b then (1, 0, 0) else (2, 0, 0)) S6 ⟨⟨h6, if_pos rfl, ?_, ?_, ?_, ?_⟩, ⟨by rw [e6, e5, e4]; exact b3, ?_, ?_, fun n => ?_⟩, ⟨by rw [e6, e5, e4]; exact p3, ?_, ?_, fun k hk => absurd hk (by omega)⟩, fun k hk => absurd hk (by omega)⟩ rfl nI_0.symm (fun pr bl ds tg S' h' => k b p pr bl ds tg S' h')⟩
  · rw [e6, e5, e4, e3, e2]
    simp [gR_sI, gR_sR, gR_nw, zp]
  · rw [e6, e5, e4]
    simp [gR_sI, gR_sR]
  · rw [e6, e5]
    simp [gI_sI]
  · rw [e6]
    simp [gI_sI]
  · dsimp only
    rw [if_neg (fun y => zb y.symm), if_pos rfl]
  · rw [e6, e5, e4, e3, e2, e1]
    show (if b = p then 3 else if b = b then 5 else gN S b) = 5
    rw [if_neg zbp, if_pos rfl]
  · rw [e6, e5, e4, e3, e2, e1]
    show (if b = p then none else if b = b then none else gQ S b n) = none
    rw [if_neg zbp, if_pos rfl]
  · dsimp only
    rw [if_neg (fun y => zp y.symm), if_neg (fun y => zbp y.symm)]
  · rw [e6, e5, e4, e3]
    exact n_nw
/-- the reference's arrays, X what lies in them -/
def MDX (m j : Nat) (ar : Nat → Nat) (X : Nat → Nat → Int32) (tg : Nat → Nat × Nat × Nat) (S : HS) : Prop :=
  (ok S m 5 ∧ tg m = (15, 0, 0) ∧ ∀ c, gI S c m = 0) ∧
  ∀ k, 2 ≤ k → k < j → gR S (160 + k) m = some (ar k) ∧ ok S (ar k) (if k = 14 then 7 else 6) ∧ gN S (ar k) = ml k ∧ (∀ n, gA S (ar k) n = X k n) ∧ tg (ar k) = (16, k, 0)
theorem MDX.exp {m j : Nat} {ar : Nat → Nat} {X : Nat → Nat → Int32} {tg tg' : Nat → Nat × Nat × Nat} {S S' : HS} (h : MDX m j ar X tg S) (g : EXP (fun _ => False) S S') (ht : ∀ x, x ∈ gL S → tg' x = tg x) : MDX m j ar X tg' S' := by
  obtain ⟨⟨a1, a2, a3⟩, hA⟩ := h
  obtain ⟨-, -, aI, aR, -⟩ := (g m a1.1).2 (fun y => y)
  refine ⟨⟨ok_exp a1 g (fun y => y), (ht m a1.1).trans a2, fun c => (aI c).trans (a3 c)⟩, fun k h1 h2 => ?_⟩
  obtain ⟨c1, c2, c3, c4, c5⟩ := hA k h1 h2
  obtain ⟨-, bN, -, -, bA, -⟩ := (g (ar k) c2.1).2 (fun y => y)
  exact ⟨(aR _).trans c1, ok_exp c2 g (fun y => y), bN.trans c3, fun n => (bA n).trans (c4 n), (ht _ c2.1).trans c5⟩
def STT (a b p : Nat) (pr bl ds : Nat → Nat) (m j : Nat) (X : Nat → Nat → Int32) (S : HS) : Prop := ∃ ar tg, SHP a b p 3 pr bl ds tg S ∧ MDX m j ar X tg S
def X00 : Nat → Nat → Int32 := fun _ _ => 0
theorem m_al {a b p : Nat} {pr bl ds : Nat → Nat} {m : Nat} {S : HS} (j : Nat) {kd n : Nat} (h : STT a b p pr bl ds m j X00 S) {Q : HS → Prop} (k : ∀ S', STT a b p pr bl ds m (j + 1) X00 S' → Q S') (hk : kd = (if j = 14 then 7 else 6) := by rfl) (hn : n = ml j := by rfl) : ∀ q, q ∉ gL S → ∀ S1, S1 = nw S kd n q → (ok S1 m 5 ∧ (∀ S2, S2 = sR S1 (160 + j) m (some q) → Q S2)) := by
  intro q hq S1 e1
  obtain ⟨ar, tg, hs, ⟨a1, a2, a3⟩, hA⟩ := h
  have g1 : EXP (fun _ => False) S S1 := by rw [e1]; exact exp_nw hq
  have m1 : ok S1 m 5 := ok_exp a1 g1 (fun y => y)
  refine ⟨m1, fun S2 e2 => k S2 ⟨fun k => if k = j then q else ar k, fun x => if x = q then (16, j, 0) else tg x, ?_, ?_, ?_⟩⟩
  · have t1 : ∀ x, x ∈ gL S → (if x = q then (16, j, 0) else tg x) = tg x := fun x hx => if_neg (ne_new hx hq)
    have g2 : EXP (fun x => x = m) S S2 := exp_trans (exp_no g1) (by rw [e2]; exact exp_sR)
    exact hs.exp g2 (fun x hx => by rw [hx, a2]; decide) t1
  · have zm : ¬ m = q := ne_new a1.1 hq
    refine ⟨by rw [e2]; exact m1, by dsimp only; rw [if_neg zm]; exact a2, fun c => ?_⟩
    rw [e2, gI_sR, ((g1 m a1.1).2 (fun y => y)).2.2.1 c]
    exact a3 c
  · intro k h1 h2
    have zm : ¬ m = q := ne_new a1.1 hq
    by_cases z : k = j
    · subst z
      dsimp only
      rw [if_pos rfl, if_pos rfl]
      refine ⟨by rw [e2, gR_sR, if_pos ⟨rfl, rfl⟩], by rw [e2, ← hk, e1]; exact ok_nw, by rw [e2, e1, ← hn]; exact n_nw, fun n' => ?_, rfl⟩
      rw [e2, gA_sR, e1]
      exact A_nw
    · obtain ⟨c1, c2, c3, c4, c5⟩ := hA k h1 (by omega)
      have zk : ¬ ar k = q := ne_new c2.1 hq
      obtain ⟨-, bN, -, -, bA, -⟩ := (g1 (ar k) c2.1).2 (fun y => y)
      dsimp only
      rw [if_neg z, if_neg zk]
      have o1 := ok_exp c2 g1 (fun y => y)
      refine ⟨?_, by rw [e2]; exact o1, by rw [e2]; exact bN.trans c3, fun n' => ?_, c5⟩
      · rw [e2, gR_sR, if_neg (fun y => z (by omega)), ((g1 m a1.1).2 (fun y => y)).2.2.2.1]
        exact c1
      · rw [e2, gA_sR]
        exact (bA n').trans (c4 n')
theorem m_st {a b p : Nat} {pr bl ds : Nat → Nat} {m : Nat} {S : HS} {X : Nat → Nat → Int32} (j : Nat) {x' v : Int32} {x kd : Nat} (h : STT a b p pr bl ds m 19 X S) (hx' : x' = nI x) (hx : x < ml j) {Q : HS → Prop} (k : ∀ S', STT a b p pr bl ds m 19 (fun k n => if k = j ∧ n = x then v else X k n) S' → Q S') (hj : 2 ≤ j ∧ j < 19 := by decide) (kk : (if j = 14 then 7 else 6) = kd := by decide) : ok S m 5 ∧ ∀ o, o = gR S (160 + j) m → ∃ q, o = some q ∧ (ok S q kd ∧ vp_in x' (gN S q) ∧ (∀ S', S' = sA S q x'.toNatClampNeg v → Q S')) := by
  obtain ⟨ar, tg, hs, ⟨a1, a2, a3⟩, hA⟩ := h
  obtain ⟨c1, c2, c3, c4, c5⟩ := hA j hj.1 hj.2
  have := ml_le j
  refine ⟨a1, fun o ho => ⟨ar j, ho.trans c1, kk ▸ c2, by rw [c3, hx']; exact vp_in_nI hx (by omega), fun S' e => k S' ⟨ar, tg, ?_, ⟨?_, a2, fun c => ?_⟩, fun k' h1 h2 => ?_⟩⟩⟩
  · have g : EXP (fun x => x = ar j) S S' := by rw [e]; exact exp_sA
    exact hs.exp g (fun x hx => by rw [hx, c5]; show 6 ≤ 16; decide) (fun _ _ => rfl)
  · rw [e]; exact a1
  · rw [e]; exact a3 c
  · obtain ⟨d1, d2, d3, d4, d5⟩ := hA k' h1 h2
    refine ⟨by rw [e]; exact d1, by rw [e]; exact d2, by rw [e]; exact d3, fun n => ?_, d5⟩
    rw [e, gA_sA, hx', nI_clamp (by omega), d4]
    show _ = if k' = j ∧ n = x then v else X k' n
    by_cases z : k' = j
    · rw [z]
      by_cases y : n = x
      · rw [if_pos ⟨rfl, y⟩, if_pos ⟨rfl, y⟩]
      · rw [if_neg (fun w => y w.2), if_neg (fun w => y w.2)]
    · rw [if_neg (fun w => z ?_), if_neg (fun w => z w.1)]
      have := w.1
      rw [← this] at c5
      rw [c5] at d5
      have := congrArg (fun q => q.2.1) d5
      exact this.symm
def XA (i : Nat) : Nat → Nat → Int32 := fun k n => if (k = 12 ∨ k = 13) ∧ n < i then 100 else if k = 16 ∧ n < i then -1 else 0
def XB (i : Nat) : Nat → Nat → Int32 := fun k n => if (k = 9 ∨ k = 10) ∧ n < i then -1 else XA 3 k n
theorem STT_c {a b p : Nat} {pr bl ds : Nat → Nat} {m j : Nat} {S : HS} {X Y : Nat → Nat → Int32} (h : STT a b p pr bl ds m j X S) (e : ∀ k n, Y k n = X k n) : STT a b p pr bl ds m j Y S := by
  have : Y = X := by funext k n; exact e k n
  rw [this]
  exact h
theorem lp_mi1 {a b p : Nat} {pr bl ds : Nat → Nat} {m : Nat} {K : Int32 → HS → Prop} : ∀ (d i : Nat) (mm : Int32) (S : HS), STT a b p pr bl ds m 19 (XA i) S → i + d = 3 → mm = nI i → (∀ S', STT a b p pr bl ds m 19 (XA 3) S' → K (nI 3) S') → wX5_init_L133 m (d + 1) mm S K := by
  intro d
  induction d with
  | zero =>
    intro i mm S h hi hm k
    subst hm
    obtain rfl : i = 3 := by omega
    exact ⟨fun _ => k S h, fun z => absurd (nI_le (Nat.le_refl 3) (by decide)) z⟩
  | succ d ih =>
    intro i mm S h hi hm k
    subst hm
    refine ⟨fun z => absurd z (lle (k := 3) (by omega) (by decide)), fun _ => ?_⟩
    refine m_st 12 h rfl (show i < 3 by omega) (fun S1 h1 => ?_)
    refine m_st 13 h1 rfl (show i < 3 by omega) (fun S2 h2 => ?_)
    refine m_st 16 h2 rfl (show i < 3 by omega) (fun S3 h3 => ?_)
    refine ih (i + 1) _ S3 (STT_c h3 (fun k n => ?_)) (by omega) (nI_1 i) k
    unfold XA
    repeat' split
    all_goals first | rfl | (exfalso; omega)
theorem lp_mi2 {a b p : Nat} {pr bl ds : Nat → Nat} {m : Nat} {K : Int32 → HS → Prop} : ∀ (d i : Nat) (mm : Int32) (S : HS), STT a b p pr bl ds m 19 (XB i) S → i + d = 80 → mm = nI i → (∀ S', STT a b p pr bl ds m 19 (XB 80) S' → K (nI 80) S') → wX5_init_L169 m (d + 1) mm S K := by
  intro d
  induction d with
  | zero =>
    intro i mm S h hi hm k
    subst hm
    obtain rfl : i = 80 := by omega
    exact ⟨fun _ => k S h, fun z => absurd (nI_le (Nat.le_refl 80) (by decide)) z⟩
  | succ d ih =>
    intro i mm S h hi hm k
    subst hm
    refine ⟨fun z => absurd z (lle (k := 80) (by omega) (by decide)), fun _ => ?_⟩
    refine m_st 9 h rfl (show i < 80 by omega) (fun S1 h1 => ?_)
    refine m_st 10 h1 rfl (show i < 80 by omega) (fun S2 h2 => ?_)
    refine ih (i + 1) _ S2 (STT_c h2 (fun k n => ?_)) (by omega) (nI_1 i) k
    unfold XB
    repeat' split
    all_goals first | rfl | (exfalso; omega)
theorem sp_minit {a b p : Nat} {pr bl ds : Nat → Nat} {m : Nat} {S : HS} {Q : HS → Prop} (h : STT a b p pr bl ds m 2 X00 S) (k : ∀ S', STT a b p pr bl ds m 19 (XB 80) S' → Q S') : wX5_init m S Q := by
  refine m_al 2 h (fun S2 h2 => ?_)
  refine m_al 3 h2 (fun S3 h3 => ?_)
  refine m_al 4 h3 (fun S4 h4 => ?_)
  refine m_al 5 h4 (fun S5 h5 => ?_)
  refine m_al 6 h5 (fun S6 h6 => ?_)
  refine m_al 7 h6 (fun S7 h7 => ?_)
  refine m_al 8 h7 (fun S8 h8 => ?_)
  refine m_al 9 h8 (fun S9 h9 => ?_)
  refine m_al 10 h9 (fun S10 h10 => ?_)
  refine m_al 11 h10 (fun S11 h11 => ?_)
  refine m_al 12 h11 (fun S12 h12 => ?_)
  refine m_al 13 h12 (fun S13 h13 => ?_)
  refine m_al 14 h13 (fun S14 h14 => ?_)
  refine m_al 15 h14 (fun S15 h15 => ?_)
  refine m_al 16 h15 (fun S16 h16 => ?_)
  refine m_al 17 h16 (fun S17 h17 => ?_)
  refine m_al 18 h17 (fun S18 h18 => ?_)
  refine ⟨4, lp_mi1 3 0 0 S18 (STT_c h18 (fun k n => ?_)) rfl nI_0.symm (fun S38 h38 => ⟨81, lp_mi2 80 0 0 S38 (STT_c h38 (fun k n => ?_)) rfl nI_0.symm (fun S41 h41 => k S41 h41)⟩)⟩
  · unfold XA X00
    repeat' split
    all_goals first | rfl | (exfalso; omega)
  · unfold XB
    rw [if_neg (by omega)]
