theorem adB_o {ad : Nat → Nat → Nat → Nat} {n q dl rl dd rd pa : Nat} {sk dk rk : Nat → Nat} {kd i j : Nat} (z : ¬ (i = n ∧ 6 ≤ kd ∧ kd < 15)) : adB ad n q dl rl dd rd pa sk dk rk kd i j = ad kd i j := if_neg z
theorem TB_F {T : TT} {n N : Nat} {ad' : Nat → Nat → Nat → Nat} {S : HS} {kd i j c : Nat} (z : ¬ (i = n ∧ 6 ≤ kd ∧ kd < 15)) (y : ¬ (kd = 0 ∧ c = 130)) : tF (TB T n N ad' S) kd i j c = tF T kd i j c := by
  show (if i = n ∧ 6 ≤ kd ∧ kd < 15 then gI S c (ad' kd i j) else if kd = 0 ∧ c = 130 then nI (n + 1) else tF T kd i j c) = _
  rw [if_neg z, if_neg y]
theorem TB_A {T : TT} {n N : Nat} {ad' : Nat → Nat → Nat → Nat} {S : HS} {kd i j m : Nat} (z : ¬ (i = n ∧ 6 ≤ kd ∧ kd < 15)) : tA (TB T n N ad' S) kd i j m = tA T kd i j m := by
  show (if i = n ∧ 6 ≤ kd ∧ kd < 15 then gA S (ad' kd i j) m else tA T kd i j m) = _
  rw [if_neg z]
theorem TB_Fn {T : TT} {n N : Nat} {ad' : Nat → Nat → Nat → Nat} {S : HS} {kd j c : Nat} (z : 6 ≤ kd ∧ kd < 15) : tF (TB T n N ad' S) kd n j c = gI S c (ad' kd n j) := by
  show (if n = n ∧ 6 ≤ kd ∧ kd < 15 then gI S c (ad' kd n j) else _) = _
  rw [if_pos ⟨rfl, z⟩]
theorem TB_An {T : TT} {n N : Nat} {ad' : Nat → Nat → Nat → Nat} {S : HS} {kd j m : Nat} (z : 6 ≤ kd ∧ kd < 15) : tA (TB T n N ad' S) kd n j m = gA S (ad' kd n j) m := by
  show (if n = n ∧ 6 ≤ kd ∧ kd < 15 then gA S (ad' kd n j) m else _) = _
  rw [if_pos ⟨rfl, z⟩]
theorem gM_TB {T : TT} {n N : Nat} {ad' : Nat → Nat → Nat → Nat} {S : HS} : gM (TB T n N ad' S) = gM T := by
  refine Prod.ext ?_ ?_
  · funext c
    exact TB_F (N := N) (by omega) (by omega)
  · funext j m
    exact TB_A (N := N) (by omega)
section BM
variable {ad : Nat → Nat → Nat → Nat} {T : TT} {M : MM} {S : HS} {x1 x2 x3 x4 x5 : Int32}
def brt (x1 x2 x3 x4 x5 : Int32) : Prop := (4 ≤ x1 ∧ x1 ≤ 32) ∧ (2 ≤ x2 ∧ x2 ≤ 12) ∧ (0 ≤ x3 ∧ x3 ≤ 3) ∧ (2 : Int32) * x3 < x2 ∧ (1 ≤ x4 ∧ x4 ≤ 40) ∧ (0 ≤ x5 ∧ x5 ≤ 10000)
theorem m_begin1 (h : INV ad (TM T M) S) {Q : Int32 → HS → Prop} (e : ¬ brt x1 x2 x3 x4 x5) (k : ∀ S', INV ad (TM T (mF M 179 1)) S' → Q 0 S') : wX5_begin (ad 15 0 0) x1 x2 x3 x4 x5 S Q := by
  have f : wX5_begin_J63 (ad 15 0 0) x1 x2 x3 x4 x5 S Q := ⟨fun z => absurd rfl z, fun _ => f1 h w1 k⟩
  by_cases z1 : 4 ≤ x1 ∧ x1 ≤ 32
  · refine mI_y z1 ⟨fun z => absurd z w1n, fun _ => ?_⟩
    by_cases z2 : 2 ≤ x2 ∧ x2 ≤ 12
    · refine mI_y z2 ⟨fun z => absurd z w1n, fun _ => ?_⟩
      by_cases z3 : 0 ≤ x3 ∧ x3 ≤ 3
      · refine mI_y z3 ⟨fun z => absurd z w1n, fun _ => ⟨fun _ => f, fun z4 => ?_⟩⟩
        by_cases z5 : 1 ≤ x4 ∧ x4 ≤ 40
        · refine mI_y z5 ⟨fun z => absurd z w1n, fun _ => mI_n (fun z6 => e ⟨z1, z2, z3, Int32.not_le.mp z4, z5, z6⟩) ⟨fun _ => f, fun z => absurd rfl z⟩⟩
        · exact mI_n z5 ⟨fun _ => f, fun z => absurd rfl z⟩
      · exact mI_n z3 ⟨fun _ => f, fun z => absurd rfl z⟩
    · exact mI_n z2 ⟨fun _ => f, fun z => absurd rfl z⟩
  · exact mI_n z1 ⟨fun _ => f, fun z => absurd rfl z⟩
theorem m_beginR (e : brt x1 x2 x3 x4 x5) {Q : Int32 → HS → Prop} (k : wX5_begin_J64 (ad 15 0 0) x1 x2 x3 x4 x5 1 S Q) : wX5_begin (ad 15 0 0) x1 x2 x3 x4 x5 S Q := by
  obtain ⟨z1, z2, z3, z4, z5, z6⟩ := e
  exact mI_y z1 ⟨fun z => absurd z w1n, fun _ => mI_y z2 ⟨fun z => absurd z w1n, fun _ => mI_y z3 ⟨fun z => absurd z w1n, fun _ => ⟨fun z => absurd z4 (Int32.not_lt.mpr z), fun _ => mI_y z5 ⟨fun z => absurd z w1n, fun _ => mI_y z6 ⟨fun z => absurd z w1n, fun _ => k⟩⟩⟩⟩⟩⟩
theorem m_begin2 (h : INV ad (TM T M) S) (e : brt x1 x2 x3 x4 x5) (h161 : M.1 161 = nI 5) {Q : Int32 → HS → Prop} (k : ∀ S', INV ad (TM T (mF M 179 2)) S' → Q 0 S') : wX5_begin (ad 15 0 0) x1 x2 x3 x4 x5 S Q := by
  refine m_beginR e ⟨fun _ => ⟨m_ok h, ?_⟩, fun z => absurd z w1n⟩
  rw [m_I h, h161]
  exact ⟨fun z => absurd rfl z, fun _ => f1 h w2 k⟩
def mbeg (M : MM) (n : Nat) (x1 x2 x3 x4 x5 : Int32) : MM := mF (mA (mA (mA (mA (mA (mF M 179 0) 2 n x1) 3 n x2) 4 n x3) 5 n x4) 6 n x5) 161 (nI n + 1)
theorem m_begin0 (h : INV ad (TM T M) S) (e : brt x1 x2 x3 x4 x5) {n : Nat} (hn : n < 5) (h161 : M.1 161 = nI n) {Q : Int32 → HS → Prop} (k : ∀ S', INV ad (TM T (mbeg M n x1 x2 x3 x4 x5)) S' → Q (nI n) S') : wX5_begin (ad 15 0 0) x1 x2 x3 x4 x5 S Q := by
  refine m_beginR e ⟨fun _ => ⟨m_ok h, ?_⟩, fun z => absurd z w1n⟩
  rw [m_I h, h161]
  refine ⟨fun _ => f0 h (fun S2 h2 => ?_), fun z => absurd ((nI_eq (by omega) (by omega)).mp (show nI n = nI 5 from z)) (by omega)⟩
  have i2 : gI S2 161 (ad 15 0 0) = nI n := (m_I h2 161).trans h161
  refine ⟨m_ok h2, fun o1 e1 => ⟨m_ok h2, ⟨_, e1.trans (rf 2 h2), rq 2 h2 i2 hn (fun S3 e3 => ?_)⟩⟩⟩
  have h3 := ms 2 h2 i2 hn e3
  have i3 : gI S3 161 (ad 15 0 0) = nI n := (m_I h3 161).trans h161
  refine ⟨m_ok h3, fun o1 e1 => ⟨m_ok h3, ⟨_, e1.trans (rf 3 h3), rq 3 h3 i3 hn (fun S4 e4 => ?_)⟩⟩⟩
  have h4 := ms 3 h3 i3 hn e4
  have i4 : gI S4 161 (ad 15 0 0) = nI n := (m_I h4 161).trans h161
  refine ⟨m_ok h4, fun o1 e1 => ⟨m_ok h4, ⟨_, e1.trans (rf 4 h4), rq 4 h4 i4 hn (fun S5 e5 => ?_)⟩⟩⟩
  have h5 := ms 4 h4 i4 hn e5
  have i5 : gI S5 161 (ad 15 0 0) = nI n := (m_I h5 161).trans h161
  refine ⟨m_ok h5, fun o1 e1 => ⟨m_ok h5, ⟨_, e1.trans (rf 5 h5), rq 5 h5 i5 hn (fun S6 e6 => ?_)⟩⟩⟩
  have h6 := ms 5 h5 i5 hn e6
  have i6 : gI S6 161 (ad 15 0 0) = nI n := (m_I h6 161).trans h161
  refine ⟨m_ok h6, fun o1 e1 => ⟨m_ok h6, ⟨_, e1.trans (rf 6 h6), rq 6 h6 i6 hn (fun S7 e7 => ?_)⟩⟩⟩
  have h7 := ms 6 h6 i6 hn e7
  have i7 : gI S7 161 (ad 15 0 0) = nI n := (m_I h7 161).trans h161
  refine ⟨m_ok h7, m_ok h7, fun S8 e8 => ?_⟩
  rw [i7] at e8
  have h8 := mi h7 e8
  refine ⟨m_ok h8, ?_⟩
  rw [m_I h8, mF_1, if_pos rfl, show nI n + 1 - 1 = nI n from by rw [nI_1]; exact pk_sub (b := 1) (by omega)]
  exact k S8 h8
theorem mbeg_1 {n : Nat} : (mbeg M n x1 x2 x3 x4 x5).1 160 = M.1 160 ∧ (mbeg M n x1 x2 x3 x4 x5).1 161 = nI (n + 1) ∧ (mbeg M n x1 x2 x3 x4 x5).1 179 = 0 := by
  refine ⟨rfl, ?_, rfl⟩
  show nI n + 1 = _
  exact nI_1 n
theorem mbeg_n {n : Nat} : (mbeg M n x1 x2 x3 x4 x5).2 2 n = x1 ∧ (mbeg M n x1 x2 x3 x4 x5).2 3 n = x2 ∧ (mbeg M n x1 x2 x3 x4 x5).2 4 n = x3 ∧ (mbeg M n x1 x2 x3 x4 x5).2 5 n = x4 ∧ (mbeg M n x1 x2 x3 x4 x5).2 6 n = x5 := by
  unfold mbeg
  rw [mF_2]
  simp [mA_2]
theorem mbeg_o {n j b : Nat} (h : ¬ (2 ≤ j ∧ j ≤ 6 ∧ b = n)) : (mbeg M n x1 x2 x3 x4 x5).2 j b = M.2 j b := by
  unfold mbeg
  rw [mF_2, mA_2, if_neg (by omega), mA_2, if_neg (by omega), mA_2, if_neg (by omega), mA_2, if_neg (by omega), mA_2, if_neg (by omega)]
  rfl
end BM
section BC
variable {a b c d : Nat} {W : HS → Prop} {S : HS} {x1 x2 x3 x4 x5 : Int32} {Post : Int32 → HS → Prop}
theorem c_beginR {A : Nat} {Q : Int32 → HS → Prop} {QX : String → HS → Prop} (hx : ¬ brt x1 x2 x3 x4 x5 → QX "java/lang/IllegalArgumentException" S) (k : brt x1 x2 x3 x4 x5 → ((ok S A 4 ∧ (((gI S 130 A) < 0 → QX "java/lang/IllegalStateException" S) ∧ (¬ (gI S 130 A) < 0 → (ok S A 4 ∧ (∀ o1, o1 = gR S 128 A → (∃ q1, o1 = some q1 ∧ (ok S q1 8 ∧ (((gI S 130 A) < (nI (gN S q1)) → (ok S A 4 ∧ (∀ o2, o2 = gR S 128 A → (∀ q2, q2 ∉ gL S → ∀ S6, S6 = nw S 0 0 q2 → (wX0_init q2 x1 x2 x3 x4 x5 S6 (fun S7 => (∃ q3, o2 = some q3 ∧ (ok S7 q3 8 ∧ vp_in (gI S 130 A) (gN S7 q3) ∧ (ok S7 q2 0 ∧ (∀ S8, S8 = sQ S7 q3 (gI S 130 A).toNatClampNeg (some q2) → (ok S8 A 4 ∧ (∀ S9, S9 = sI S8 130 A ((gI S 130 A) + (1 : Int32)) → Q (gI S 130 A) S9)))))))))))) ∧ (¬ (gI S 130 A) < (nI (gN S q1)) → QX "java/lang/IllegalStateException" S))))))))))) : wX4_begin A x1 x2 x3 x4 x5 S Q QX := by
  by_cases z1 : 4 ≤ x1 ∧ x1 ≤ 32
  · refine cI_y z1 ⟨fun _ => ?_, fun z => absurd z w1n⟩
    by_cases z2 : 2 ≤ x2 ∧ x2 ≤ 12
    · refine cI_y z2 ⟨fun _ => ?_, fun z => absurd z w1n⟩
      by_cases z3 : 0 ≤ x3 ∧ x3 ≤ 3
      · refine cI_y z3 ⟨fun z => absurd z w1n, fun _ => ⟨fun z4 => ?_, fun z4 => hx (fun e => z4 e.2.2.2.1)⟩⟩
        by_cases z5 : 1 ≤ x4 ∧ x4 ≤ 40
        · refine cI_y z5 ⟨fun _ => ?_, fun z => absurd z w1n⟩
          by_cases z6 : 0 ≤ x5 ∧ x5 ≤ 10000
          · exact cI_y z6 ⟨fun _ => k ⟨z1, z2, z3, z4, z5, z6⟩, fun z => absurd z w1n⟩
          · exact cI_n z6 ⟨fun z => absurd rfl z, fun _ => hx (fun e => z6 e.2.2.2.2.2)⟩
        · exact cI_n z5 ⟨fun z => absurd rfl z, fun _ => hx (fun e => z5 e.2.2.2.2.1)⟩
      · exact cI_n z3 ⟨fun _ => hx (fun e => z3 e.2.2.1), fun z => absurd rfl z⟩
    · exact cI_n z2 ⟨fun z => absurd rfl z, fun _ => hx (fun e => z2 e.2.1)⟩
  · exact cI_n z1 ⟨fun z => absurd rfl z, fun _ => hx (fun e => z1 e.1)⟩
theorem cs_begin (hW : ∀ S, LI a b c d S → W S) (h : LI a b c d S) (k : ∀ r1 S7, (ok S7 b 5 ∧ wX5_begin b x1 x2 x3 x4 x5 S7 (fun r2 S8 => TL b c W r1 r2 S8)) → Post r1 S7) : wL_begin (some a) x1 x2 x3 x4 x5 (some c) S Post := by
  obtain ⟨ad, T, hI, hR, ht, rfl, rfl, rfl, rfl⟩ := h
  obtain ⟨hI', hN, v⟩ := LIx hI hR
  have bad2 : brt x1 x2 x3 x4 x5 → tN T = 5 → Post 2 S := fun e z => k 2 S ⟨m_ok hI', m_begin2 hI' e (by rw [hN, z]) (fun S4 h4 => fin_th hW rfl rfl rfl w2n h4 hR ht)⟩
  have h5 := v.1
  obtain ⟨s1, s2, s3, s4, s5, s6, s7, s8, s9⟩ := s_ref hI
  refine ⟨_, rfl, s1, c_beginR (fun e => Or.inl ⟨rfl, k 1 S ⟨m_ok hI', m_begin1 hI' e (fun S4 h4 => fin_th hW rfl rfl rfl w1n h4 hR ht)⟩⟩) (fun e => ⟨s1, ?_⟩)⟩
  have i130 : gI S 130 (ad 0 0 0) = nI (tN T) := (hI.I (vk0 (by decide)) 130).trans hR.1.1
  rw [i130]
  refine ⟨fun z => absurd z (nI_pos (by omega)), fun _ => ⟨s1, fun o1 eo1 => ⟨_, eo1.trans s2, s4, ?_⟩⟩⟩
  rw [s5]
  refine ⟨fun z => ⟨s1, fun o2 eo2 q hq S6 e6 => ?_⟩, fun z => Or.inr ⟨rfl, bad2 e ?_⟩⟩
  · have n5 : tN T < 5 := (nI_ltI (by omega) (by omega)).mp z
    obtain ⟨z1, z2, z3, z4, z5, z6⟩ := id e
    obtain ⟨C, C1, C2, rfl⟩ := n_of (lo := 4) (hi := 32) z1 (by decide) (by decide)
    obtain ⟨Wd, W1, W2, rfl⟩ := n_of (lo := 2) (hi := 12) z2 (by decide) (by decide)
    obtain ⟨O, O1, O2, rfl⟩ := n_of (lo := 0) (hi := 3) z3 (by decide) (by decide)
    have z4' : 2 * O < Wd := by
      rw [lit 2, pk_mul] at z4
      exact (nI_ltI (by omega) (by omega)).mp z4
    obtain ⟨N, g⟩ := strips_ex C1 C2 W1 W2 z4'
    obtain ⟨t0, ht0, -⟩ := hI.2.2
    refine sp_binit (S0 := S) (t0 := t0) (n := tN T) g (by rw [e6]; exact exp_nw hq) (by rw [e6]; exact ok_nw) hq (fun dl rl dd rd pa sk dk rk tg S7 hB h6 => ?_)
    have hEo := hB.1.1
    have k7 : ok S7 (ad 1 0 0) 8 := ok_exp s4 hEo (fun y => y)
    have n7 : gN S7 (ad 1 0 0) = 5 := ((hEo _ s4.1).2 (fun y => y)).2.1.trans s5
    refine ⟨_, eo2.trans s2, k7, by rw [n7]; exact vp_in_nI n5 (by decide), hB.2.1.1, fun S8 e8 => ?_⟩
    rw [nI_clamp (by omega)] at e8
    have k0 : ok S7 (ad 0 0 0) 4 := ok_exp s1 hEo (fun y => y)
    refine ⟨by rw [e8]; exact k0, fun S9 e9 => ?_⟩
    rw [nI_1] at e9
    have hA := asm_begin hI ht0 n5 g.2.2.2.2.2.2.1 (RR_GP hR) hB e8 e9
    obtain ⟨ad', ead⟩ : ∃ ad', ad' = adB ad (tN T) q dl rl dd rd pa sk dk rk := ⟨_, rfl⟩
    rw [← ead] at hA
    have aO : ∀ kd i j, ¬ (i = tN T ∧ 6 ≤ kd ∧ kd < 15) → ad' kd i j = ad kd i j := fun kd i j z => by rw [ead]; exact if_neg z
    have a6 : ad' 6 (tN T) 0 = q ∧ ad' 8 (tN T) 0 = rl ∧ ad' 10 (tN T) 0 = rd := by
      rw [ead]; simp [adB]
    have a12 : ∀ k, ad' 12 (tN T) k = sk k ∧ ad' 14 (tN T) k = rk k := fun k => by
      rw [ead]; simp [adB]
    obtain ⟨⟨hE, hT, hq0, hp0⟩, ⟨b1, b2, b3, b4, b5, b6, b7, b8, b9⟩, ⟨d1, d2, d3⟩, ⟨f1, f2, f3⟩, ⟨p1, p2, p3, p4⟩, hS⟩ := hB
    have g9 : ∀ cc x, ¬ cc = 130 → gI S9 cc x = gI S7 cc x := fun cc x y => by rw [e9, gI_sI, if_neg (fun w => y w.1), e8, gI_sQ]
    have A9 : ∀ x m, gA S9 x m = gA S7 x m := fun x m => by rw [e9, e8]; rfl
    have hRn : RR (TB T (tN T) N ad' S9) (mbeg (gM T) (tN T) (nI C) (nI Wd) (nI O) x4 x5) := by
      refine RR_begin (T := T) (M := gM T) (C := C) (W := Wd) (O := O) (N := N) (n := tN T) (lim := x4) (due := x5) hR rfl n5 g rfl rfl rfl (fun b => rfl) (fun kd i j c z y => TB_F z y) (fun kd i j m z => TB_A z) ?_ ⟨?_, ?_, ?_, ?_, ?_⟩ (fun m => ?_) (fun m => ?_) (fun k hk => ?_) (fun k m hk => ?_) mbeg_1.1 mbeg_1.2.1 mbeg_n (fun j b h => mbeg_o h)
      · show (if 0 = tN T ∧ 6 ≤ 0 ∧ 0 < 15 then gI S9 130 (ad' 0 0 0) else if 0 = 0 ∧ 130 = 130 then nI (tN T + 1) else tF T 0 0 0 130) = _
        rw [if_neg (by omega), if_pos ⟨rfl, rfl⟩]
      · rw [TB_Fn (by decide), a6.1, g9 _ _ (by decide)]; exact b6
      · rw [TB_Fn (by decide), a6.1, g9 _ _ (by decide)]; exact b7
      · rw [TB_Fn (by decide), a6.1, g9 _ _ (by decide)]; exact b8
      · rw [TB_Fn (by decide), a6.1, g9 _ _ (by decide)]; exact h6
      · rw [TB_Fn (by decide), a6.1, g9 _ _ (by decide)]; exact b9
      · rw [TB_An (by decide), a6.2.1, A9]; exact d1.2.2.2.2 m
      · rw [TB_An (by decide), a6.2.2, A9]; exact f1.2.2.2.2 m
      · obtain ⟨⟨-, -, -, c1, c2, c3, c4, c5, c6, c7, c8⟩, -⟩ := hS k hk
        rw [TB_Fn (by decide), TB_Fn (by decide), TB_Fn (by decide), TB_Fn (by decide), TB_Fn (by decide), TB_Fn (by decide), TB_Fn (by decide), TB_Fn (by decide), (a12 k).1, g9 _ _ (by decide), g9 _ _ (by decide), g9 _ _ (by decide), g9 _ _ (by decide), g9 _ _ (by decide), g9 _ _ (by decide), g9 _ _ (by decide), g9 _ _ (by decide)]
        exact ⟨⟨c1, c2, c3, c4, c5⟩, c6, c7, c8⟩
      · obtain ⟨⟨-, -, dd', -⟩, -⟩ := hS k hk
        rw [TB_An (by decide), (a12 k).2, A9]; exact dd'.2.2.2.2 m
    have htn : RRt (TB T (tN T) N ad' S9) := by
      intro p hp hne
      rw [TB_F (by omega) (by omega)]
      exact ht p hp hne
    rw [← aO 17 0 0 (by omega)]
    refine rtn hA (fun ad2 S3 h3 e0 e15 e17 e18 eJ => ?_)
    have q0 := e0.trans (aO 0 0 0 (by omega))
    have q15 := e15.trans (aO 15 0 0 (by omega))
    have q17 := e17.trans (aO 17 0 0 (by omega))
    have q18 := e18.trans (aO 18 0 0 (by omega))
    refine k 0 S3 ?_
    rw [← q15] at hW ⊢
    rw [gM_TB] at h3
    exact ⟨m_ok h3, m_begin0 h3 e n5 hN (fun S5 h5 => fin_ok hW q0 q17 q18 eJ rfl h5 mbeg_1.2.2 hRn htn)⟩
  · have := nI_lt_of (j := tN T) (N := 6) (by omega) (nI_ge (by omega) (by omega))
    rcases Nat.lt_or_ge (tN T) 5 with y | y
    · exact absurd (nI_lt y (by omega)) z
    · omega
end BC
