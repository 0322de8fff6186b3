/-! A pass -/
theorem dos_g {p b s c : Nat} : ∀ (d r : Nat) (T : TT), gM (dos8 p b s c d r T) = gM T := by
  intro d
  induction d with
  | zero => intros; rfl
  | succ d ih => intro r T; rw [dos8, ih]; rfl
theorem lay_g {p b s c : Nat} : ∀ (d r : Nat) (g : Int32) (T : TT), gM (lay8 p b s c d r g T).2 = gM T := by
  intro d
  induction d with
  | zero => intros; rfl
  | succ d ih => intro r g T; rw [lay8, ih]; rfl
theorem layC_g {p b s : Nat} : ∀ (d c : Nat) (g : Int32) (T : TT), gM (layC p b s d c g T).2 = gM T := by
  intro d
  induction d with
  | zero => intros; rfl
  | succ d ih => intro c g T; rw [layC, ih, lay_g, dos_g]
theorem uend_g {T : TT} {p b s f e : Nat} {now : Int32} : gM (uend T p b s f e now) = gM T := by
  have : gM (uend T p b s f e now) = gM (layC p b s (e - f) f 0 (utick T p)).2 := rfl
  rw [this, layC_g]
  rfl
theorem uE_g {T : TT} {p : Nat} : gM (uE T p).2 = gM T := by
  cases w : tP T p with
  | none => rw [uE_none w]
  | some q =>
    rw [uE_some w]
    by_cases z : tF T 3 p 0 73 - 1 ≤ 0
    · rw [if_pos z]; exact uend_g
    · rw [if_neg z]; rfl
theorem uEL_g : ∀ (d p : Nat) (a : Int32) (T : TT), gM (uEL d p a T).2 = gM T := by
  intro d
  induction d with
  | zero => intros; rfl
  | succ d ih => intro p a T; rw [uEL, ih, uE_g]
def utime (T : TT) : TT := uF T 0 0 0 131 (tF T 0 0 0 131 + 1)
def utk (T : TT) : Int32 × TT := uEL 3 0 0 (utime (ustL 3 0 T))
def upL : Nat → Int32 → TT → Int32 × TT
  | 0, a, T => (a, T)
  | d + 1, a, T => upL d (a + (utk T).1) (utk T).2
theorem RR_time {T : TT} {M : MM} (h : RR T M) : RR (utime T) (mF M 160 (M.1 160 + 1)) := by
  obtain ⟨h0, hs, hd, hl, hk, hp, hq, hw, ho, hn⟩ := h
  have s : Sm T M (utime T) (mF M 160 (M.1 160 + 1)) := ⟨rfl, rfl, fun _ _ _ => rfl, fun _ _ _ _ _ => rfl, fun _ _ _ _ => rfl⟩
  refine ⟨⟨h0.1, h0.2.1, ?_, h0.2.2.2⟩, RRs_e s hs, hd, fun b k r c hb hk' hr hc => hl b k r c hb hk' hr ((inr_e s b k c).mp hc), hk, hp, hq, hw, ho, hn⟩
  show (if (0 : Nat) = 0 ∧ (0 : Nat) = 0 ∧ (0 : Nat) = 0 ∧ (131 : Nat) = 131 then tF T 0 0 0 131 + 1 else tF T 0 0 0 131) = (if (160 : Nat) = 160 then M.1 160 + 1 else M.1 160)
  rw [if_pos ⟨rfl, rfl, rfl, rfl⟩, if_pos rfl, h0.2.2.1]
theorem RR_GP {T : TT} {M : MM} (h : RR T M) : GP T := by
  intro p hp
  obtain ⟨q1, q2⟩ := h.2.2.2.2.2.2.1 p hp
  exact ⟨fun w => (q1 w).1, fun q w => by obtain ⟨b1, b2, b3, -⟩ := q2 q w; exact ⟨b1, b2, b3⟩⟩
theorem RR_GA {T : TT} {M : MM} (h : RR T M) : GA T := by
  intro b s hb hs
  have g := h.2.1 b hb
  have fe := geo_fe g.1 hs
  exact ⟨_, _, (g.2.2.2.2.2 s hs).2.1, (g.2.2.2.2.2 s hs).2.2.1, Nat.le_of_lt fe.1, fe.2.2⟩
theorem RR_MV {T : TT} {M : MM} (h : RR T M) : MVal M (tN T) (tS T) := by
  refine ⟨h.1.2.2.2, fun b hb => (h.2.1 b hb).1, fun k hk p hp e => q_out h hk hp e, fun p hp => ?_⟩
  obtain ⟨q1, q2⟩ := h.2.2.2.2.2.2.1 p hp
  cases w : tP T p with
  | none => exact Or.inl (q1 w).2
  | some q =>
    obtain ⟨b1, b2, b3, b4, -⟩ := q2 q w
    have n16 : tS T q.1 ≤ 16 := (h.2.1 q.1 b2).1.2.2.2.2.2.2.2.2.2.1
    have n5 := h.1.2.2.2
    refine Or.inr ⟨16 * q.1 + q.2, by omega, b4, ?_, ?_⟩
    · rw [show (16 * q.1 + q.2) / 16 = q.1 from by omega]; exact b2
    · rw [show (16 * q.1 + q.2) / 16 = q.1 from by omega, show (16 * q.1 + q.2) % 16 = q.2 from by omega]; exact b3
theorem lock_go {T : TT} {M : MM} (h : RR T M) (ht : RRt T) : (utk T).1 = (mgo (tS T) M).1 ∧ RR (utk T).2 (mgo (tS T) M).2 ∧ RRt (utk T).2 ∧ tS (utk T).2 = tS T ∧ gM (utk T).2 = gM T := by
  obtain ⟨a1, a2, a3, a4⟩ := lock_stL 3 0 T M h ht rfl
  have b1 := RR_time a1
  have b2 : RRt (utime (ustL 3 0 T)) := a2
  obtain ⟨c1, c2, c3, c4⟩ := lock_EL 3 0 0 _ _ (tS T) b1 b2 (show tS T = tS (utime (ustL 3 0 T)) from a3.symm) rfl
  refine ⟨c1, c2, c3, c4, ?_⟩
  unfold utk
  rw [uEL_g]
  show gM (ustL 3 0 T) = gM T
  exact a4
theorem lock_pL : ∀ (d : Nat) (a : Int32) (T : TT) (M : MM) (ss : Nat → Nat), RR T M → RRt T → ss = tS T → (upL d a T).1 = (mpL ss d a M).1 ∧ RR (upL d a T).2 (mpL ss d a M).2 ∧ RRt (upL d a T).2 ∧ gM (upL d a T).2 = gM T := by
  intro d
  induction d with
  | zero => intro a T M ss h ht e; exact ⟨rfl, h, ht, rfl⟩
  | succ d ih =>
    intro a T M ss h ht e
    subst e
    obtain ⟨c1, c2, c3, c4, c5⟩ := lock_go h ht
    obtain ⟨d1, d2, d3, d4⟩ := ih (a + (mgo (tS T) M).1) _ _ (tS T) c2 c3 c4.symm
    rw [upL, mpL, c1]
    exact ⟨d1, d2, d3, d4.trans c5⟩
theorem lp_pass {ad : Nat → Nat → Nat → Nat} {t : Nat} (ht30 : t < 2 ^ 30) {K : Int32 → Int32 → HS → Prop} : ∀ (d i : Nat) (a m : Int32) (T : TT) (M : MM) (S : HS), INV ad T S → RR T M → RRt T → i + d = t → m = nI i → (∀ S', INV ad (upL d a T).2 S' → K (upL d a T).1 (nI t) S') → wX4_pass_L25 (ad 0 0 0) (nI t) (d + 1) a m S K := by
  intro d
  induction d with
  | zero =>
    intro i a m T M S h hr ht hi hm k
    subst hm
    obtain rfl : i = t := by omega
    exact ⟨fun _ => k S h, fun z => absurd (nI_le (Nat.le_refl i) (by omega)) z⟩
  | succ d ih =>
    intro i a m T M S h hr ht hi hm k
    subst hm
    obtain ⟨a1, a2, a3, a4⟩ := lock_stL 3 0 T M hr ht rfl
    have b1 := RR_time a1
    obtain ⟨c1, c2, c3, c4, c5⟩ := lock_go hr ht
    refine ⟨fun z => absurd z (nI_ge (by omega) (by omega)), fun _ => ⟨(s_ref h).1, sp_startIdle h (fun S2 h2 => ⟨(s_ref h2).1, (s_ref h2).1, fun S3 e3 => ?_⟩)⟩⟩
    rw [h2.I (vk0 (by decide))] at e3
    have h3 := inv_sIe h2 (vk0 (by decide)) e3
    have h3' : INV ad (utime (ustL 3 0 T)) S3 := h3
    exact ⟨(s_ref h3').1, sp_endTick h3' (RR_GP b1) (RR_GA b1) (fun S4 h4 => ih (i + 1) _ _ _ _ S4 h4 c2 c3 (by omega) (nI_1 i) k)⟩
