/-! The start's invariant, and the law on every script -/
def adI (a b p m o od : Nat) (pr bl ds ar : Nat → Nat) (J D : Nat) : Nat → Nat → Nat → Nat := fun kd i _ =>
  if kd = 0 then a else if kd = 1 then b else if kd = 2 then p else if kd = 3 then pr i else if kd = 4 then bl i else if kd = 5 then ds i else if kd = 15 then m else if kd = 16 then ar i else if kd = 17 then o else if kd = 18 then od else if kd = 100 then J else if kd = 101 then D else 0
def TI0 (ad : Nat → Nat → Nat → Nat) (S : HS) : TT := (fun kd i j c => gI S c (ad kd i j), fun kd i j n => gA S (ad kd i j) n, fun _ => none, fun _ => none, 0, fun _ => 0)
theorem LI_start {a b p m o od : Nat} {pr bl ds : Nat → Nat} {S4 S5 S6 : HS} (h : STT a b p pr bl ds m 19 (XB 80) S4) (ho : o ∉ gL S4) (e5 : S5 = nw S4 11 1 o) (hod : od ∉ gL S5) (e6 : S6 = nw S5 12 1 od) : LI a m o od S6 := by
  obtain ⟨ar, tg, hs, hm⟩ := h
  have g5 : EXP (fun _ => False) S4 S5 := by rw [e5]; exact exp_nw ho
  have g6 : EXP (fun _ => False) S5 S6 := by rw [e6]; exact exp_nw hod
  have g : EXP (fun _ => False) S4 S6 := exp_trans g5 g6
  have o5 : ok S5 o 11 := by rw [e5]; exact ok_nw
  have N5 : gN S5 o = 1 := by rw [e5]; exact n_nw
  have o6 : ok S6 o 11 := ok_exp o5 g6 (fun y => y)
  have N6 : gN S6 o = 1 := ((g6 o o5.1).2 (fun y => y)).2.1.trans N5
  have d6 : ok S6 od 12 := by rw [e6]; exact ok_nw
  have D6 : gN S6 od = 1 := by rw [e6]; exact n_nw
  have zo : ¬ o = od := ne_new o5.1 hod
  have tgo : ∀ x, x ∈ gL S4 → (if x = o then (17, 0, 0) else if x = od then (18, 0, 0) else tg x) = tg x := fun x hx => by
    rw [if_neg (ne_new hx ho), if_neg (ne_new (g5 x hx).1 hod)]
  obtain ⟨tt, ett⟩ : ∃ tt : Nat → Nat × Nat × Nat, tt = fun x => if x = o then (17, 0, 0) else if x = od then (18, 0, 0) else tg x := ⟨_, rfl⟩
  have tto : tt o = (17, 0, 0) := by rw [ett]; exact if_pos rfl
  have ttd : tt od = (18, 0, 0) := by
    rw [ett]
    show (if od = o then (17, 0, 0) else if od = od then (18, 0, 0) else tg od) = _
    rw [if_neg (fun y => zo y.symm), if_pos rfl]
  have tg2 : ∀ x, x ∈ gL S4 → tt x = tg x := fun x hx => by rw [ett]; exact tgo x hx
  obtain ⟨⟨a1, a2, a3, a4, a5, a6⟩, ⟨b1, b2, b3, b4⟩, ⟨p1, p2, p3, p4⟩, hP⟩ := hs.exp g (fun x y => y.elim) tg2
  obtain ⟨⟨m1, m2, m3⟩, hA⟩ := hm.exp g tg2
  obtain ⟨ad, ead⟩ : ∃ ad, ad = adI a b p m o od pr bl ds ar (gJ S6 o 0).toBitVec.toNat (gD S6 od 0).toNat := ⟨_, rfl⟩
  have q0 : ∀ i j, ad 0 i j = a := fun i j => by rw [ead]; rfl
  have q1 : ∀ i j, ad 1 i j = b := fun i j => by rw [ead]; rfl
  have q2 : ∀ i j, ad 2 i j = p := fun i j => by rw [ead]; rfl
  have q3 : ∀ i j, ad 3 i j = pr i := fun i j => by rw [ead]; rfl
  have q4 : ∀ i j, ad 4 i j = bl i := fun i j => by rw [ead]; rfl
  have q5 : ∀ i j, ad 5 i j = ds i := fun i j => by rw [ead]; rfl
  have q15 : ∀ i j, ad 15 i j = m := fun i j => by rw [ead]; rfl
  have q16 : ∀ i j, ad 16 i j = ar i := fun i j => by rw [ead]; rfl
  have q17 : ∀ i j, ad 17 i j = o := fun i j => by rw [ead]; rfl
  have q18 : ∀ i j, ad 18 i j = od := fun i j => by rw [ead]; rfl
  have q100 : ad 100 0 0 = (gJ S6 o 0).toBitVec.toNat := by rw [ead]; rfl
  have q101 : ad 101 0 0 = (gD S6 od 0).toNat := by rw [ead]; rfl
  have vc : ∀ kd i j, vk (TI0 ad S6) kd i j → (kd = 0 ∧ i = 0 ∧ j = 0) ∨ (kd = 1 ∧ i = 0 ∧ j = 0) ∨ (kd = 2 ∧ i = 0 ∧ j = 0) ∨ (kd = 3 ∧ i < 3 ∧ j = 0) ∨ (kd = 4 ∧ i < 3 ∧ j = 0) ∨ (kd = 5 ∧ i < 3 ∧ j = 0) ∨ (kd = 15 ∧ i = 0 ∧ j = 0) ∨ (kd = 16 ∧ (2 ≤ i ∧ i < 19) ∧ j = 0) ∨ (kd = 17 ∧ i = 0 ∧ j = 0) ∨ (kd = 18 ∧ i = 0 ∧ j = 0) := by
    intro kd i j v
    have nn : tN (TI0 ad S6) = 0 := rfl
    rcases v with ⟨w, w1, w2⟩ | ⟨w, w0, w1, w2⟩ | ⟨w, w0, w1, w2⟩ | ⟨w, w0, w1, w2⟩ | ⟨w, w1, w2⟩ | ⟨w, w0, w1, w2⟩ | ⟨w, w0, w1, w2⟩ <;> omega
  have hI : INV ad (TI0 ad S6) S6 := by
    refine ⟨fun kd i j v => ?_, ⟨⟨?_, ?_⟩, fun b' hb => ?_, fun p' hp => ?_, fun p' hp => ?_, fun b' hb => absurd hb (Nat.not_lt_zero _), fun kd i j v hd => ?_, fun b' k hb => absurd hb (Nat.not_lt_zero _), fun j h1 h2 => ?_, Nat.zero_le _, fun b' hb => absurd hb (Nat.not_lt_zero _)⟩, tt, fun kd i j v => ?_, ?_, ?_⟩
    · rcases vc kd i j v with ⟨rfl, rfl, rfl⟩ | ⟨rfl, rfl, rfl⟩ | ⟨rfl, rfl, rfl⟩ | ⟨rfl, h1, rfl⟩ | ⟨rfl, h1, rfl⟩ | ⟨rfl, h1, rfl⟩ | ⟨rfl, rfl, rfl⟩ | ⟨rfl, h1, rfl⟩ | ⟨rfl, rfl, rfl⟩ | ⟨rfl, rfl, rfl⟩
      · exact ⟨by rw [q0]; exact a1, fun h => absurd h (by decide), fun _ => rfl, fun _ => rfl⟩
      · exact ⟨by rw [q1]; exact b1, fun _ => by rw [q1]; exact b3, fun _ => rfl, fun _ => rfl⟩
      · exact ⟨by rw [q2]; exact p1, fun _ => by rw [q2]; exact p3, fun _ => rfl, fun _ => rfl⟩
      · exact ⟨by rw [q3]; exact (hP i h1).1.1, fun h => absurd h (by decide), fun _ => rfl, fun _ => rfl⟩
      · exact ⟨by rw [q4]; exact (hP i h1).1.2.2.1.1, fun _ => by rw [q4]; exact (hP i h1).1.2.2.1.2.1, fun _ => rfl, fun _ => rfl⟩
      · exact ⟨by rw [q5]; exact (hP i h1).1.2.2.2.2.1.1, fun _ => by rw [q5]; exact (hP i h1).1.2.2.2.2.1.2.1, fun _ => rfl, fun _ => rfl⟩
      · exact ⟨by rw [q15]; exact m1, fun h => absurd h (by decide), fun _ => rfl, fun _ => rfl⟩
      · obtain ⟨c1, c2, c3, c4, c5⟩ := hA i h1.1 h1.2
        exact ⟨by rw [q16]; exact c2, fun _ => by rw [q16]; exact c3, fun _ => rfl, fun _ => rfl⟩
      · exact ⟨by rw [q17]; exact o6, fun _ => by rw [q17]; exact N6, fun _ => rfl, fun _ => rfl⟩
      · exact ⟨by rw [q18]; exact d6, fun _ => by rw [q18]; exact D6, fun _ => rfl, fun _ => rfl⟩
    · rw [q0, q1]; exact a3
    · rw [q0, q2]; exact a4
    · rw [q1, if_neg (show ¬ b' < tN (TI0 ad S6) from Nat.not_lt_zero _)]; exact b4 b'
    · rw [q2, q3]; exact p4 p' hp
    · obtain ⟨c1, c2, c3, c4, c5, c6, c7, -⟩ := (hP p' hp).1
      rw [q3, q4, q5]
      exact ⟨c2, c4, c6, c7⟩
    · rcases vc kd i j v with ⟨rfl, -⟩ | ⟨rfl, -⟩ | ⟨rfl, -⟩ | ⟨rfl, -⟩ | ⟨rfl, -⟩ | ⟨rfl, -⟩ | ⟨rfl, -⟩ | ⟨rfl, -⟩ | ⟨rfl, -⟩ | ⟨rfl, -⟩ <;> omega
    · rw [q15, q16]; exact (hA j h1 h2).1
    · rcases vc kd i j v with ⟨rfl, rfl, rfl⟩ | ⟨rfl, rfl, rfl⟩ | ⟨rfl, rfl, rfl⟩ | ⟨rfl, h1, rfl⟩ | ⟨rfl, h1, rfl⟩ | ⟨rfl, h1, rfl⟩ | ⟨rfl, rfl, rfl⟩ | ⟨rfl, h1, rfl⟩ | ⟨rfl, rfl, rfl⟩ | ⟨rfl, rfl, rfl⟩
      · rw [q0]; exact a2
      · rw [q1]; exact b2
      · rw [q2]; exact p2
      · rw [q3]; exact (hP i h1).2.1
      · rw [q4]; exact (hP i h1).2.2.1
      · rw [q5]; exact (hP i h1).2.2.2
      · rw [q15]; exact m2
      · rw [q16]; exact (hA i h1.1 h1.2).2.2.2.2
      · rw [q17]; exact tto
      · rw [q18]; exact ttd
    · rw [q17, q100]
    · rw [q18, q101]
  have F : ∀ kd i j c, tF (TI0 ad S6) kd i j c = gI S6 c (ad kd i j) := fun _ _ _ _ => rfl
  have A : ∀ kd i j n, tA (TI0 ad S6) kd i j n = gA S6 (ad kd i j) n := fun _ _ _ _ => rfl
  have M1 : ∀ c, (gM (TI0 ad S6)).1 c = 0 := fun c => by
    show gI S6 c (ad 15 0 0) = 0
    rw [q15]; exact m3 c
  have M2 : ∀ j n, 2 ≤ j → j < 19 → (gM (TI0 ad S6)).2 j n = XB 80 j n := fun j n h1 h2 => by
    show gA S6 (ad 16 j 0) n = _
    rw [q16]; exact (hA j h1 h2).2.2.2.1 n
  have m9 : ∀ n, n < 80 → (gM (TI0 ad S6)).2 9 n = -1 := fun n hn => by
    rw [M2 9 n (by decide) (by decide)]
    exact if_pos ⟨Or.inl rfl, hn⟩
  have m10 : ∀ n, n < 80 → (gM (TI0 ad S6)).2 10 n = -1 := fun n hn => by
    rw [M2 10 n (by decide) (by decide)]
    exact if_pos ⟨Or.inr rfl, hn⟩
  have mz : ∀ j n, 2 ≤ j → j < 19 → j ≠ 9 → j ≠ 10 → j ≠ 12 → j ≠ 13 → j ≠ 16 → (gM (TI0 ad S6)).2 j n = 0 := fun j n h1 h2 h3 h4 h5 h6 h7 => by
    rw [M2 j n h1 h2]
    unfold XB XA
    rw [if_neg (by omega), if_neg (by omega), if_neg (by omega)]
  have mp : ∀ p, p < 3 → (gM (TI0 ad S6)).2 12 p = 100 ∧ (gM (TI0 ad S6)).2 13 p = 100 ∧ (gM (TI0 ad S6)).2 16 p = -1 := fun p hp => by
    rw [M2 12 p (by decide) (by decide), M2 13 p (by decide) (by decide), M2 16 p (by decide) (by decide)]
    unfold XB XA
    rw [if_neg (by omega), if_pos (by omega), if_neg (by omega), if_pos (by omega), if_neg (by omega), if_neg (by omega), if_pos (by omega)]
    exact ⟨rfl, rfl, rfl⟩
  have hR : RR (TI0 ad S6) (gM (TI0 ad S6)) := by
    refine ⟨⟨?_, ?_, ?_, Nat.zero_le _⟩, fun b hb => absurd hb (Nat.not_lt_zero _), fun b hb => absurd hb (Nat.not_lt_zero _), fun b k r c hb => absurd hb (Nat.not_lt_zero _), fun b k hb => absurd hb (Nat.not_lt_zero _), fun p hp => ?_, fun p hp => ?_, fun p hp => ?_, fun n h1 h2 => ⟨m9 n h1, m10 n h1⟩, fun b h1 h2 => ⟨mz 11 b (by decide) (by decide) (by decide) (by decide) (by decide) (by decide) (by decide), fun n hn => ⟨mz 7 _ (by decide) (by decide) (by decide) (by decide) (by decide) (by decide) (by decide), mz 8 _ (by decide) (by decide) (by decide) (by decide) (by decide) (by decide) (by decide), mz 8 _ (by decide) (by decide) (by decide) (by decide) (by decide) (by decide) (by decide)⟩⟩⟩
    · rw [F, q0]; exact a5
    · exact M1 161
    · rw [F, q0, M1]; exact a6
    · obtain ⟨c1, c2, c3, c4, c5, c6, c7, c8, c9, c10, c11, c12, c13⟩ := (hP p hp).1
      obtain ⟨n1, n2, n3⟩ := mp p hp
      rw [F, F, F, q3, c8, c9, c10, n1, n2, mz 15 p (by decide) (by decide) (by decide) (by decide) (by decide) (by decide) (by decide)]
      refine ⟨⟨100, by decide, by decide, rfl, rfl⟩, rfl, fun n hn => ?_, rfl⟩
      rw [A, q4, mz 14 _ (by decide) (by decide) (by decide) (by decide) (by decide) (by decide) (by decide)]
      exact c3.2.2 n
    · exact ⟨fun _ => ⟨rfl, (mp p hp).2.2⟩, fun q e => (by cases e)⟩
    · obtain ⟨c1, c2, c3, c4, c5, c6, c7, c8, c9, c10, c11, c12, c13⟩ := (hP p hp).1
      rw [F, q3, c11]
      obtain ⟨x, x1, x2, x3⟩ := acc_cnt (g := fun k => (gM (TI0 ad S6)).2 9 k) (v := nI p) 80 0 0
      have x0 : x = 0 := x3.mpr (fun k _ hk => by rw [m9 k (by omega)]; exact fun y => one_pos (by omega) y.symm)
      rw [x0] at x1
      exact x1.symm
  exact ⟨ad, TI0 ad S6, hI, hR, fun p hp hne => absurd rfl hne, q0 0 0, q15 0 0, q17 0 0, q18 0 0⟩
/-- the heap of the start: nothing of ours -/
def S00 : HS := (fun _ _ => 0, fun _ _ => none, fun _ _ => 0, fun _ _ => none, fun _ _ => 0, fun _ _ => 0, fun _ => 100, fun _ => 0, [])
theorem law_pure (L : Nat) (hL : L ≤ 3072) (xs : Nat → Int32) : wL_law L xs S00 := by
  intro a ha S1 e1
  refine sp_shop (by rw [e1]; exact ok_nw) (fun b p pr bl ds tg S2 hS => ?_)
  intro m hm S3 e3
  have g3 : EXP (fun _ => False) S2 S3 := by rw [e3]; exact exp_nw hm
  have hT : STT a b p pr bl ds m 2 X00 S3 := by
    refine ⟨fun _ => 0, fun x => if x = m then (15, 0, 0) else tg x, hS.exp g3 (fun x y => y.elim) (fun x hx => if_neg (ne_new hx hm)), ⟨by rw [e3]; exact ok_nw, if_pos rfl, fun c => by rw [e3]; exact I_nw⟩, fun k h1 h2 => by omega⟩
  refine sp_minit hT (fun S4 h4 => ?_)
  intro o ho S5 e5 od hod S6 e6
  exact ⟨L / 6 + 1, by omega, lp_law hL (fun _ _ => trivial) (L / 6 + 1) 0 0 S6 (LI_start h4 ho e5 hod e6) (Nat.zero_le _) (by omega) nI_0.symm⟩
