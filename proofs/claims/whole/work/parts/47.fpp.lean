/-! fill, put, pass -/
theorem RR_lev {T : TT} {M : MM} (h : RR T M) {b n : Nat} {x : Int32} (hb : b < tN T) (hn0 : n < 256) : RR (uA T 8 b 0 n x) (mA M 7 (256 * b + n) x) := by
  obtain ⟨h0, hs, hd, hl, hk, hp, hq, hw, ho, hn⟩ := h
  have s : Sm T M (uA T 8 b 0 n x) (mA M 7 (256 * b + n) x) := ⟨rfl, rfl, fun _ _ _ => rfl, fun _ _ _ _ _ => rfl, fun j n a b => mA_n (by omega)⟩
  refine ⟨h0, RRs_e s hs, fun b' hb' => ?_, fun b' k r c hb' hk' hr hc => ?_, fun b' k' hb' hk' => ?_, fun p' hp' => ?_, fun p' hp' => ?_, fun p' hp' => ?_, fun n' a1 a2 => ?_, fun b' h1 h2 => ?_⟩
  · obtain ⟨d1, d2⟩ := hd b' hb'
    rw [mA_n (j' := 11) (by decide)]
    refine ⟨d1, fun n' hn' => ⟨?_, ?_⟩⟩
    · rw [tA_uA, mA_2]
      by_cases z : b' = b ∧ n' = n
      · obtain ⟨rfl, rfl⟩ := z
        rw [if_pos ⟨rfl, rfl, rfl, rfl⟩, if_pos ⟨rfl, rfl⟩]
      · rw [if_neg (fun y => z ⟨y.2.1, y.2.2.2⟩), if_neg (fun y => z (by omega))]
        exact (d2 n' hn').1
    · unfold mlaid
      rw [tA_uA, if_neg (fun y => absurd y.1 (by decide)), mA_n (by decide), mA_n (by decide)]
      exact (d2 n' hn').2
  · rw [tA_uA, if_neg (fun y => absurd y.1 (by decide)), mA_n (by decide)]
    exact hl b' k r c hb' hk' hr ((inr_e s b' k c).mp hc)
  · rw [mA_n (by decide), mA_n (by decide)]
    exact hk b' k' hb' hk'
  · rw [mA_n (by decide), mA_n (by decide)]
    obtain ⟨a1, a2, a3, a4⟩ := hp p' hp'
    refine ⟨?_, a2, fun n' hn' => ?_, a4⟩
    · exact a1
    · rw [tA_uA, if_neg (fun y => absurd y.1 (by decide)), mA_n (by decide)]; exact a3 n' hn'
  · rw [mA_n (by decide), mA_n (by decide)]
    exact hq p' hp'
  · show tF T 3 p' 0 69 = _
    rw [hw p' hp']
    exact acc_congr _ _ _ (fun j _ _ => by rw [mA_n (by decide)])
  · rw [mA_n (by decide), mA_n (by decide)]
    exact ho n' a1 a2
  · have h1' : tN T ≤ b' := h1
    obtain ⟨m1, m2⟩ := hn b' h1 h2
    rw [mA_n (by decide)]
    refine ⟨m1, fun n' hn' => ?_⟩
    rw [mA_2, if_neg (fun y => by omega), mA_n (by decide), mA_n (by decide)]
    exact m2 n' hn'
def mlev (b r : Nat) (x : Int32) : Nat → Nat → MM → MM
  | 0, _, M => M
  | d + 1, i, M => mlev b r x d (i + 1) (mA M 7 (256 * b + 32 * r + i) x)
theorem lock_lev {b r e : Nat} {x : Int32} (hr : r < 8) (he : e ≤ 32) : ∀ (d i : Nat) (T : TT) (M : MM), RR T M → b < tN T → i + d = e → RR (ulev b r x d i T) (mlev b r x d i M) := by
  intro d
  induction d with
  | zero => intro i T M h _ _; exact h
  | succ d ih =>
    intro i T M h hb hi
    have := RR_lev (n := 32 * r + i) (x := x) h hb (by omega)
    rw [← Nat.add_assoc] at this
    exact ih (i + 1) _ _ this hb (by omega)
theorem ulev_k {b r : Nat} {x : Int32} : ∀ (d i : Nat) (T : TT), (ulev b r x d i T).2.2 = T.2.2 ∧ (ulev b r x d i T).1 = T.1 ∧ gM (ulev b r x d i T) = gM T := by
  intro d
  induction d with
  | zero => intros; exact ⟨rfl, rfl, rfl⟩
  | succ d ih => intro i T; obtain ⟨a1, a2, a3⟩ := ih (i + 1) (uA T 8 b 0 (32 * r + i) x); exact ⟨a1, a2, a3⟩
theorem mlev_1 {b r : Nat} {x : Int32} : ∀ (d i : Nat) (M : MM), (mlev b r x d i M).1 = M.1 := by
  intro d
  induction d with
  | zero => intros; rfl
  | succ d ih => intro i M; exact ih (i + 1) _
theorem lp_mlev {ad : Nat → Nat → Nat → Nat} {T : TT} {b r e : Nat} {x : Int32} (hb : b < 5) (hr : r < 8) (he : e ≤ 32) {K : Int32 → Int32 → HS → Prop} : ∀ (d i : Nat) (a m : Int32) (M : MM) (S : HS), INV ad (TM T M) S → i + d = e → m = nI i → (∀ S', INV ad (TM T (mlev b r x d i M)) S' → K (acc (fun c => if M.2 7 (256 * b + 32 * r + c) = x then 0 else 1) d i a) (nI e) S') → wX5_fill_L83 (ad 15 0 0) (nI b) (nI r) (nI e) x (d + 1) a m S K := by
  intro d
  induction d with
  | zero =>
    intro i a m M S h hi hm k
    subst hm
    obtain rfl : i = e := by omega
    exact ⟨fun _ => k S h, fun z => absurd (nI_le (Nat.le_refl i) (by omega)) z⟩
  | succ d ih =>
    intro i a m M S h hi hm k
    subst hm
    have hn : 256 * b + 32 * r + i < ml 7 := by show _ < 1280; omega
    have cg : ∀ a', acc (fun c => if (mA M 7 (256 * b + 32 * r + i) x).2 7 (256 * b + 32 * r + c) = x then 0 else 1) d (i + 1) a' = acc (fun c => if M.2 7 (256 * b + 32 * r + c) = x then 0 else 1) d (i + 1) a' := fun a' =>
      acc_congr d (i + 1) a' (fun j hj1 hj2 => by
        rw [mA_2, if_neg (show ¬ ((7 : Nat) = 7 ∧ 256 * b + 32 * r + j = 256 * b + 32 * r + i) from fun q => by omega)])
    refine ⟨fun z => absurd z (nI_ge (by omega) (by omega)), fun _ => ⟨m_ok h, fun o1 e1 => sm_dot rfl ⟨_, e1.trans (rf 7 h), rq 7 h rfl hn ?_⟩⟩⟩
    rw [mv 7 h rfl hn]
    refine ⟨fun z => ⟨m_ok h, fun o2 e2 => sm_dot rfl ⟨_, e2.trans (rf 7 h), rq 7 h rfl hn (fun S5 e5 => ih (i + 1) _ _ _ S5 (ms 7 h rfl hn e5) (by omega) (nI_1 i) (fun S' h' => ?_))⟩⟩, fun z => ⟨m_ok h, fun o2 e2 => sm_dot rfl ⟨_, e2.trans (rf 7 h), rq 7 h rfl hn (fun S5 e5 => ih (i + 1) _ _ _ S5 (ms 7 h rfl hn e5) (by omega) (nI_1 i) (fun S' h' => ?_))⟩⟩⟩
    · have k2 := k S' h'
      rw [acc, if_neg z] at k2
      rw [cg]
      exact k2
    · have k2 := k S' h'
      rw [acc, if_pos z] at k2
      rw [cg]
      exact k2
theorem m_fill1 {ad : Nat → Nat → Nat → Nat} {T : TT} {M : MM} {S : HS} {x y z u w : Int32} (h : INV ad (TM T M) S) (hN : M.1 161 = nI (tN T)) (v : MVal M (tN T) (tS T)) {Q : Int32 → HS → Prop} (e : ¬ ∃ b r c, b < tN T ∧ r < 8 ∧ c < gC M b ∧ x = nI b ∧ y = nI r ∧ z = nI c) (k : ∀ S', INV ad (TM T (mF M 179 1)) S' → Q 0 S') : wX5_fill (ad 15 0 0) x y z u w S Q :=
  ⟨m_ok h, mD_n h hN v e ⟨fun _ => ⟨fun z => absurd rfl z, fun _ => f1 h w1 k⟩, fun z => absurd rfl z⟩⟩
theorem m_fill2 {ad : Nat → Nat → Nat → Nat} {T : TT} {M : MM} {S : HS} {u w : Int32} {b r c : Nat} (h : INV ad (TM T M) S) (hN : M.1 161 = nI (tN T)) (v : MVal M (tN T) (tS T)) (hb : b < tN T) (hr : r < 8) (hc : c < gC M b) {Q : Int32 → HS → Prop} (e : ¬ (nI c + 1 ≤ u ∧ u ≤ nI (gC M b)) ∨ (nI c + 1 ≤ u ∧ u ≤ nI (gC M b)) ∧ ¬ (0 ≤ w ∧ w ≤ 15)) (k : ∀ S', INV ad (TM T (mF M 179 2)) S' → Q 0 S') : wX5_fill (ad 15 0 0) (nI b) (nI r) (nI c) u w S Q := by
  have h5 := v.1
  have hC := (v.2.1 b hb).1
  refine ⟨m_ok h, mD_y h hN v hb hr hc ⟨fun z => absurd z w1n, fun _ => ⟨m_ok h, rd 2 h rfl (show b < 5 by omega) ?_⟩⟩⟩
  rw [mv 2 h rfl (show b < 5 by omega), hC]
  rcases e with e | ⟨e1, e2⟩
  · exact mI_n e ⟨fun _ => ⟨fun _ => ⟨fun _ => f1 h w2 k, fun z => absurd rfl z⟩, fun z => absurd z w1n⟩, fun z => absurd rfl z⟩
  · exact mI_y e1 ⟨fun z => absurd z w1n, fun _ => mI_n e2 ⟨fun _ => ⟨fun _ => ⟨fun _ => f1 h w2 k, fun z => absurd rfl z⟩, fun z => absurd z w1n⟩, fun z => absurd rfl z⟩⟩
section FQ
variable {a b c d : Nat} {W : HS → Prop} {S : HS} {x y z u w : Int32} {Post : Int32 → HS → Prop}
theorem cs_fill (hW : ∀ S, LI a b c d S → W S) (h : LI a b c d S) (k : ∀ r1 S7, (ok S7 b 5 ∧ wX5_fill b x y z u w S7 (fun r2 S8 => TL b c W r1 r2 S8)) → Post r1 S7) : wL_fill (some a) x y z u w (some c) S Post := by
  obtain ⟨ad, T, hI, hR, ht, rfl, rfl, rfl, rfl⟩ := h
  obtain ⟨hI', hN, v⟩ := LIx hI hR
  have bad : (¬ ∃ b r c, b < tN T ∧ r < 8 ∧ c < gC (gM T) b ∧ x = nI b ∧ y = nI r ∧ z = nI c) → Post 1 S := fun e =>
    k 1 S ⟨m_ok hI', m_fill1 hI' hN v e (fun S4 h4 => fin_th hW rfl rfl rfl w1n h4 hR ht)⟩
  have h5 := v.1
  refine ⟨_, rfl, (s_ref hI).1, (s_ref hI).1, ?_⟩
  by_cases zb : ∃ b, b < tN T ∧ x = nI b
  · obtain ⟨b, hb, rfl⟩ := zb
    have c32 : gC (gM T) b ≤ 32 := (hR.2.1 b hb).1.2.2.2.2.1
    have eb : ∀ {b'}, b' < tN T → nI b = nI b' → b' = b := fun h1 h2 => ((nI_eq (by omega) (by omega)).mp h2).symm
    refine cB_y hI hb ⟨fun z => (by cases z), fun q e => ?_⟩
    cases e
    by_cases zr : ∃ r, r < 8 ∧ y = nI r
    · obtain ⟨r, hr, rfl⟩ := zr
      refine cR_y hr ⟨fun z => absurd z w1n, fun _ => ⟨(b_ref hI hb).1, ?_⟩⟩
      by_cases zc : ∃ c, c < gC (gM T) b ∧ z = nI c
      · obtain ⟨c, hc, rfl⟩ := zc
        have bad2 : (¬ (nI c + 1 ≤ u ∧ u ≤ nI (gC (gM T) b)) ∨ (nI c + 1 ≤ u ∧ u ≤ nI (gC (gM T) b)) ∧ ¬ (0 ≤ w ∧ w ≤ 15)) → Post 2 S := fun e =>
          k 2 S ⟨m_ok hI', m_fill2 hI' hN v hb hr hc e (fun S4 h4 => fin_th hW rfl rfl rfl w2n h4 hR ht)⟩
        refine cC_y hI hb (hR.2.1 b hb).2.1 c32 hc ⟨fun _ => ⟨(b_ref hI hb).1, ?_⟩, fun z => absurd z w1n⟩
        rw [hI.I (vk6 hb (by decide) (by decide)), (hR.2.1 b hb).2.1]
        by_cases zu : nI c + 1 ≤ u ∧ u ≤ nI (gC (gM T) b)
        · by_cases zw : (0 : Int32) ≤ w ∧ w ≤ 15
          · obtain ⟨e, g1, g2, rfl⟩ := n_of (x := u) (lo := c + 1) (hi := gC (gM T) b) (by rw [← nI_1]; exact zu) (by omega) (by omega)
            have ez := ulev_k (b := b) (r := r) (x := w) (e - c) c T
            have hL := lock_lev (b := b) (r := r) (e := e) (x := w) hr (by omega) (e - c) c T (mF (gM T) 179 0) hR hb (by omega)
            have m1 := mlev_1 (b := b) (r := r) (x := w) (e - c) c (mF (gM T) 179 0)
            obtain ⟨T1, eT1⟩ : ∃ T1, T1 = ulev b r w (e - c) c T := ⟨_, rfl⟩
            obtain ⟨M1, eM1⟩ : ∃ M1, M1 = mlev b r w (e - c) c (mF (gM T) 179 0) := ⟨_, rfl⟩
            rw [← eT1] at ez hL
            rw [← eM1] at hL m1
            refine cI_y zu ⟨fun _ => cI_y zw ⟨fun _ => ⟨(b_ref hI hb).1, sp_setLevels hI hb hr (by omega) (by omega) (fun S1 h1 => ?_)⟩, fun z => absurd z w1n⟩, fun z => absurd z w1n⟩
            rw [← eT1] at h1
            refine rtn h1 (fun ad' S3 h3 e0 e15 e17 e18 eJ => k 0 S3 ?_)
            rw [← e15] at hW ⊢
            rw [ez.2.2] at h3
            refine ⟨m_ok h3, ?_⟩
            have hN1 : tN T1 = tN T := (tN_e ez.1).1
            have hC := (v.2.1 b hb).1
            refine ⟨m_ok h3, mD_y h3 (N := tN T) hN v hb hr hc ⟨fun z => absurd z w1n, fun _ => ⟨m_ok h3, rd 2 h3 rfl (show b < 5 by omega) ?_⟩⟩⟩
            rw [mv 2 h3 rfl (show b < 5 by omega), hC]
            refine mI_y zu ⟨fun z => absurd z w1n, fun _ => mI_y zw ⟨fun z => absurd z w1n, fun _ => ⟨fun _ => ⟨fun z => absurd z w1n, fun _ => f0 h3 (fun S4 h4 => ⟨e - c + 1, lp_mlev (by omega) hr (by omega) (e - c) c 0 (nI c) _ S4 h4 (by omega) rfl (fun S5 h5 => ?_)⟩)⟩, fun z => absurd z w1n⟩⟩⟩
            rw [← eM1] at h5
            have h179 : M1.1 179 = 0 := by rw [m1]; rfl
            have en : acc (fun c => if tA T 8 b 0 (32 * r + c) = w then 0 else 1) (e - c) c 0 = acc (fun c => if (mF (gM T) 179 0).2 7 (256 * b + 32 * r + c) = w then 0 else 1) (e - c) c 0 :=
              acc_congr _ _ _ (fun j h1 h2 => by rw [((hR.2.2.1 b hb).2 (32 * r + j) (by omega)).1, ← Nat.add_assoc]; rfl)
            exact fin_ok hW e0 e17 e18 eJ (by rw [en]) h5 h179 hL (RRt_e ht ez.2.1 ez.1)
          · exact cI_y zu ⟨fun _ => cI_n zw ⟨fun z => absurd rfl z, fun _ => Or.inr ⟨rfl, bad2 (Or.inr ⟨zu, zw⟩)⟩⟩, fun z => absurd z w1n⟩
        · exact cI_n zu ⟨fun z => absurd rfl z, fun _ => Or.inr ⟨rfl, bad2 (Or.inl zu)⟩⟩
      · refine cC_n hI hb (hR.2.1 b hb).2.1 c32 zc ⟨fun z => absurd rfl z, fun _ => Or.inl ⟨rfl, bad ?_⟩⟩
        rintro ⟨b', r', c', h1, h2, h3, h4, h5, h6⟩
        exact zc ⟨c', eb h1 h4 ▸ h3, h6⟩
    · refine cR_n zr ⟨fun _ => Or.inl ⟨rfl, bad ?_⟩, fun z => absurd rfl z⟩
      rintro ⟨b', r', c', h1, h2, h3, h4, h5, h6⟩
      exact zr ⟨r', h2, h5⟩
  · refine cB_n hI zb ⟨fun _ => Or.inl ⟨rfl, bad ?_⟩, fun q e => (by cases e)⟩
    rintro ⟨b', r', c', h1, h2, h3, h4, h5, h6⟩
    exact zb ⟨b', h1, h4⟩
end FQ
theorem mE_1 {M : MM} {ss : Nat → Nat} {p : Nat} : (mE M ss p).2.1 = M.1 := by
  unfold mE
  by_cases z : M.2 16 p = -1
  · rw [if_pos z]
  · rw [if_neg z]
    by_cases y : M.2 17 p - 1 = 0
    · rw [if_pos y]
      show (mfc (mtic M p) p (M.2 16 p).toNatClampNeg (ss ((M.2 16 p).toNatClampNeg / 16))).2.1 = M.1
      unfold mfc
      rw [mcol_1]
      rfl
    · rw [if_neg y]; rfl
theorem mEL_1 {ss : Nat → Nat} : ∀ (d p : Nat) (a : Int32) (M : MM), (mEL ss d p a M).2.1 = M.1 := by
  intro d
  induction d with
  | zero => intros; rfl
  | succ d ih => intro p a M; rw [mEL, ih, mE_1]
theorem mst1_1 {M : MM} {p : Nat} : (mst1 M p).1 = M.1 := by
  unfold mst1 mtake
  by_cases z : M.2 16 p = -1
  · rw [if_pos z]
    cases mtL M p 80 0 none with
    | none => rfl
    | some q => rfl
  · rw [if_neg z]
theorem mstL_1 : ∀ (d p : Nat) (M : MM), (mstL d p M).1 = M.1 := by
  intro d
  induction d with
  | zero => intros; rfl
  | succ d ih => intro p M; rw [mstL, ih, mst1_1]
theorem mgo_179 {ss : Nat → Nat} {M : MM} : (mgo ss M).2.1 179 = M.1 179 := by
  unfold mgo
  rw [mEL_1, mF_1, if_neg (by decide), mstL_1]
theorem mpL_179 {ss : Nat → Nat} : ∀ (d : Nat) (a : Int32) (M : MM), (mpL ss d a M).2.1 179 = M.1 179 := by
  intro d
  induction d with
  | zero => intros; rfl
  | succ d ih => intro a M; rw [mpL, ih, mgo_179]
section PP
variable {a b c d : Nat} {W : HS → Prop} {S : HS} {x y z u w : Int32} {Post : Int32 → HS → Prop}
theorem cs_pass (hW : ∀ S, LI a b c d S → W S) (h : LI a b c d S) (k : ∀ r1 S7, (ok S7 b 5 ∧ wX5_pass b x S7 (fun r2 S8 => TL b c W r1 r2 S8)) → Post r1 S7) : wL_pass (some a) x (some c) S Post := by
  obtain ⟨ad, T, hI, hR, ht, rfl, rfl, rfl, rfl⟩ := h
  obtain ⟨hI', hN, v⟩ := LIx hI hR
  refine ⟨_, rfl, (s_ref hI).1, ?_⟩
  by_cases zx : (1 : Int32) ≤ x ∧ x ≤ 200
  · obtain ⟨t, g1, g2, rfl⟩ := n_of (lo := 1) (hi := 200) zx (by decide) (by decide)
    have hR0 : RR T (mF (gM T) 179 0) := hR
    have hL := lock_pL t 0 T (mF (gM T) 179 0) (tS T) hR0 ht rfl
    have m1 := mpL_179 (ss := tS T) t 0 (mF (gM T) 179 0)
    obtain ⟨T1, eT1⟩ : ∃ T1, T1 = upL t 0 T := ⟨_, rfl⟩
    obtain ⟨M1, eM1⟩ : ∃ M1, M1 = mpL (tS T) t 0 (mF (gM T) 179 0) := ⟨_, rfl⟩
    rw [← eT1, ← eM1] at hL
    rw [← eM1] at m1
    refine cI_y zx ⟨fun _ => ⟨t + 1, lp_pass (by omega) t 0 0 0 T _ S hI hR ht (by omega) nI_0.symm (fun S1 h1 => ?_)⟩, fun z => absurd z w1n⟩
    rw [← eT1] at h1 ⊢
    refine rtn h1 (fun ad' S3 h3 e0 e15 e17 e18 eJ => k 0 S3 ?_)
    rw [← e15] at hW ⊢
    rw [hL.2.2.2] at h3
    have v0 : MVal (mF (gM T) 179 0) (tN T) (tS T) := v
    refine ⟨m_ok h3, mI_y zx ⟨fun z => absurd z w1n, fun _ => f0 h3 (fun S4 h4 => ⟨t + 1, lp_mp (by omega) t 0 0 0 _ S4 h4 v0 (by omega) nI_0.symm (fun S5 h5 => ?_)⟩)⟩⟩
    rw [← eM1] at h5 ⊢
    have h179 : M1.2.1 179 = 0 := by rw [m1]; rfl
    exact fin_ok hW e0 e17 e18 eJ (by rw [hL.1]) h5 h179 hL.2.1 hL.2.2.1
  · refine cI_n zx ⟨fun z => absurd rfl z, fun _ => ⟨rfl, k 1 S ?_⟩⟩
    exact ⟨m_ok hI', mI_n zx ⟨fun _ => f1 hI' w1 (fun S4 h4 => fin_th hW rfl rfl rfl w1n h4 hR ht), fun z => absurd rfl z⟩⟩
end PP
theorem pr_eq {T : TT} {M : MM} {p b s : Nat} (h : RR T M) (hp : p < 3) (hb : b < tN T) (hs : s < tS T b) : M.2 16 p = nI (16 * b + s) ↔ tP T p = some (b, s) := by
  obtain ⟨q1, q2⟩ := h.2.2.2.2.2.2.1 p hp
  have h5 := h.1.2.2.2
  have n16 : tS T b ≤ 16 := (h.2.1 b hb).1.2.2.2.2.2.2.2.2.2.1
  cases w : tP T p with
  | none =>
    rw [(q1 w).2]
    exact ⟨fun e => absurd e.symm (one_pos (by omega)), fun e => (by cases e)⟩
  | some q =>
    obtain ⟨b1, b2, b3, b4, -⟩ := q2 q w
    have n16' : tS T q.1 ≤ 16 := (h.2.1 q.1 b2).1.2.2.2.2.2.2.2.2.2.1
    rw [b4]
    constructor
    · intro e
      have := (nI_eq (by omega) (by omega)).mp e
      have e1 : q.1 = b := by omega
      have e2 : q.2 = s := by omega
      rw [← e1, ← e2]
    · intro e
      cases e
      rfl
def uput (T : TT) (b s p : Nat) : TT := uF (uF T 12 b s 102 (nI p)) 3 p 0 69 (tF T 3 p 0 69 + 1)
theorem RR_put {T : TT} {M : MM} {b s p : Nat} (h : RR T M) (hp3 : p < 3) (b2 : b < tN T) (b3 : s < tS T b) (hq9 : M.2 9 (16 * b + s) = -1) (hnp : ∀ p, p < 3 → ¬ tP T p = some (b, s)) : RR (uput T b s p) (mA M 9 (16 * b + s) (nI p)) := by
  obtain ⟨h0, hs, hd, hl, hk, hp, hq, hw, ho, hn⟩ := h
  have n5 := h0.2.2.2
  have n16 : ∀ b', b' < tN T → tS T b' ≤ 16 := fun b' hb' => (hs b' hb').1.2.2.2.2.2.2.2.2.2.1
  have l2 := n16 b b2
  have y1 : ∀ kd i j z, ¬ (kd = 12 ∧ i = b ∧ j = s ∧ z = 102) → ¬ (kd = 3 ∧ i = p ∧ j = 0 ∧ z = 69) → tF (uput T b s p) kd i j z = tF T kd i j z := by
    intro kd i j z h1 h2
    unfold uput
    rw [tF_uF, if_neg h2, tF_uF, if_neg h1]
  have x102 : tF (uput T b s p) 12 b s 102 = nI p := by
    unfold uput
    rw [tF_uF, if_neg (fun y => absurd y.1 (by decide)), tF_uF, if_pos ⟨rfl, rfl, rfl, rfl⟩]
  have x69 : tF (uput T b s p) 3 p 0 69 = tF T 3 p 0 69 + 1 := by
    unfold uput
    rw [tF_uF, if_pos ⟨rfl, rfl, rfl, rfl⟩]
  have sm : Sm T M (uput T b s p) (mA M 9 (16 * b + s) (nI p)) := ⟨rfl, rfl, fun b' c hc => y1 _ _ _ _ (fun y => absurd y.1 (by decide)) (fun y => absurd y.1 (by decide)), fun b' k' c h1 h2 => y1 _ _ _ _ (fun y => by omega) (fun y => absurd y.1 (by decide)), fun j n a1 a2 => mA_n (by omega)⟩
  refine ⟨?_, RRs_e sm hs, fun b' hb' => ?_, fun b' k' r c hb' hk' hr hc => ?_, fun b' k' hb' hk' => ?_, fun p' hp' => ?_, fun p' hp' => ?_, fun p' hp' => ?_, fun n a1 a2 => ?_, fun b' h1 h2 => ?_⟩
  · unfold RR0
    rw [y1 0 0 0 130 (fun y => absurd y.1 (by decide)) (fun y => absurd y.1 (by decide)), y1 0 0 0 131 (fun y => absurd y.1 (by decide)) (fun y => absurd y.1 (by decide))]
    exact h0
  · rw [y1 6 b' 0 7 (fun y => absurd y.1 (by decide)) (fun y => absurd y.1 (by decide)), mA_n (by decide)]
    exact hd b' hb'
  · exact hl b' k' r c hb' hk' hr ((inr_e sm b' k' c).mp hc)
  · have hb2 : b' < tN T := hb'
    have hk2 : k' < tS T b' := hk'
    have l1 := n16 b' hb2
    obtain ⟨a1, a2, a3, a4⟩ := hk b' k' hb2 hk2
    rw [y1 12 b' k' 104 (fun y => by omega) (fun y => absurd y.1 (by decide)), y1 12 b' k' 103 (fun y => by omega) (fun y => absurd y.1 (by decide)), mA_n (j' := 10) (by decide), mA_2]
    by_cases z : b' = b ∧ k' = s
    · obtain ⟨rfl, rfl⟩ := z
      rw [x102, if_pos ⟨rfl, rfl⟩]
      exact ⟨rfl, a2, a3, fun p' hp' e => absurd e (hnp p' hp')⟩
    · rw [y1 12 b' k' 102 (fun y => z ⟨y.2.1, y.2.2.1⟩) (fun y => absurd y.1 (by decide)), if_neg (fun y => z (by omega))]
      exact ⟨a1, a2, a3, a4⟩
  · rw [y1 3 p' 0 64 (fun y => absurd y.1 (by decide)) (fun y => by omega), y1 3 p' 0 65 (fun y => absurd y.1 (by decide)) (fun y => by omega), y1 3 p' 0 68 (fun y => absurd y.1 (by decide)) (fun y => by omega)]
    exact hp p' hp'
  · rw [y1 3 p' 0 72 (fun y => absurd y.1 (by decide)) (fun y => by omega), y1 3 p' 0 73 (fun y => absurd y.1 (by decide)) (fun y => by omega)]
    exact hq p' hp'
  · have au := acc_upd (f := fun n => if (mA M 9 (16 * b + s) (nI p)).2 9 n = nI p' then 1 else 0) (g := fun n => if M.2 9 n = nI p' then 1 else 0) (q := 16 * b + s) (fun n hn' => by
      show (if (mA M 9 (16 * b + s) (nI p)).2 9 n = nI p' then (1 : Int32) else 0) = if M.2 9 n = nI p' then 1 else 0
      rw [show (mA M 9 (16 * b + s) (nI p)).2 9 n = M.2 9 n from by rw [mA_2, if_neg (fun y => hn' y.2)]]) 80 0 0 (by omega) (by omega)
    rw [au, ← hw p' hp', show (mA M 9 (16 * b + s) (nI p)).2 9 (16 * b + s) = nI p from by rw [mA_2, if_pos ⟨rfl, rfl⟩], hq9, if_neg (show ¬ (-1 : Int32) = nI p' from fun y => one_pos (by omega) y.symm)]
    by_cases z : p' = p
    · subst z
      rw [if_pos rfl, x69, Int32.sub_zero]
    · rw [if_neg (fun y => z ((nI_eq (by omega) (by omega)).mp y).symm), y1 3 p' 0 69 (fun y => absurd y.1 (by decide)) (fun y => z y.2.1), Int32.sub_zero, Int32.add_zero]
  · have a2' : ¬ (n / 16 < tN T ∧ n % 16 < tS T (n / 16)) := a2
    rw [mA_2, if_neg (fun y => ?_), mA_n (by decide)]
    · exact ho n a1 a2'
    · have e1 : n / 16 = b := by omega
      have e2 : n % 16 = s := by omega
      rw [e1, e2] at a2'
      exact a2' ⟨b2, b3⟩
  · exact hn b' h1 h2
section PU
variable {ad : Nat → Nat → Nat → Nat} {T : TT} {M : MM} {S : HS}
theorem lp_mput (h : INV ad (TM T M) S) {x : Int32} {K : Int32 → Int32 → HS → Prop} : ∀ (d i : Nat) (a m : Int32), i + d = 80 → m = nI i → K (acc (fun k => if M.2 9 k = x then 1 else 0) d i a) (nI 80) S → wX5_put_L111 (ad 15 0 0) x (d + 1) a m S K := by
  intro d
  induction d with
  | zero =>
    intro i a m hi hm k
    subst hm
    obtain rfl : i = 80 := by omega
    exact ⟨fun _ => k, fun z => absurd (nI_le (Nat.le_refl 80) (by decide)) z⟩
  | succ d ih =>
    intro i a m hi hm k
    subst hm
    have hn : i < ml 9 := by show _ < 80; omega
    refine ⟨fun z => absurd z (lle (k := 80) (by omega) (by decide)), fun _ => ⟨m_ok h, rd 9 h rfl hn ?_⟩⟩
    rw [mv 9 h rfl hn]
    refine ⟨fun e => ih (i + 1) _ _ (by omega) (nI_1 i) ?_, fun e => ih (i + 1) _ _ (by omega) (nI_1 i) ?_⟩
    · rw [acc, if_neg e] at k; exact k
    · rw [acc, if_pos e] at k; exact k
theorem m_put1 {x y z : Int32} (h : INV ad (TM T M) S) (hN : M.1 161 = nI (tN T)) (v : MVal M (tN T) (tS T)) {Q : Int32 → HS → Prop} (e : (¬ ∃ b s, b < tN T ∧ s < tS T b ∧ x = nI b ∧ y = nI s) ∨ (∃ b s, b < tN T ∧ s < tS T b ∧ x = nI b ∧ y = nI s) ∧ ¬ ∃ p, p < 3 ∧ z = nI p) (k : ∀ S', INV ad (TM T (mF M 179 1)) S' → Q 0 S') : wX5_put (ad 15 0 0) x y z S Q := by
  rcases e with e | ⟨⟨b, s, hb, hs, rfl, rfl⟩, e⟩
  · exact ⟨m_ok h, mS_n h hN v e ⟨fun _ => ⟨fun _ => ⟨fun z => absurd rfl z, fun _ => f1 h w1 k⟩, fun z => absurd rfl z⟩, fun z => absurd rfl z⟩⟩
  · exact ⟨m_ok h, mS_y h hN v hb hs ⟨fun z => absurd z w1n, fun _ => mP_n e ⟨fun _ => ⟨fun _ => ⟨fun z => absurd rfl z, fun _ => f1 h w1 k⟩, fun z => absurd rfl z⟩, fun z => absurd rfl z⟩⟩⟩
theorem m_put2 {b s p : Nat} (h : INV ad (TM T M) S) (hN : M.1 161 = nI (tN T)) (v : MVal M (tN T) (tS T)) (hb : b < tN T) (hs : s < tS T b) (hp : p < 3) {Q : Int32 → HS → Prop} (e : ¬ M.2 9 (16 * b + s) = -1 ∨ (∃ p, p < 3 ∧ M.2 16 p = nI (16 * b + s)) ∨ ¬ M.2 10 (16 * b + s) ≤ M.1 160) (k : ∀ S', INV ad (TM T (mF M 179 2)) S' → Q 0 S') : wX5_put (ad 15 0 0) (nI b) (nI s) (nI p) S Q := by
  have h5 := v.1
  have n16 := (v.2.1 b hb).2.2.2.2.2.2.2.2.2.1
  have hn : 16 * b + s < 80 := by omega
  refine ⟨m_ok h, mS_y h hN v hb hs ⟨fun z => absurd z w1n, fun _ => mP_y hp ⟨fun z => absurd z w1n, fun _ => ⟨fun z => absurd z w1n, fun _ => ⟨fun _ => ⟨m_ok h, rd 9 h ix16 hn ?_⟩, fun z => absurd z w1n⟩⟩⟩⟩⟩
  rw [mv 9 h ix16 hn, ix16]
  refine ⟨fun _ => f1 h w2 k, fun z1 => ⟨m_ok h, sm_isPrinting h (fun z2 => ⟨fun z => absurd rfl z, fun _ => ⟨m_ok h, rd 10 h rfl hn ⟨m_ok h, ?_⟩⟩⟩) (fun _ => ⟨fun _ => f1 h w2 k, fun z => absurd z w1n⟩)⟩⟩
  rw [mv 10 h rfl hn, m_I h]
  refine ⟨fun z3 => ?_, fun _ => f1 h w2 k⟩
  rcases e with e | ⟨p', e1, e2⟩ | e
  · exact absurd z1 e
  · exact absurd e2 (z2 p' e1)
  · exact absurd z3 e
theorem m_put0 {b s p : Nat} (h : INV ad (TM T M) S) (hN : M.1 161 = nI (tN T)) (v : MVal M (tN T) (tS T)) (hb : b < tN T) (hs : s < tS T b) (hp : p < 3) {Q : Int32 → HS → Prop} (e1 : M.2 9 (16 * b + s) = -1) (e2 : ∀ p, p < 3 → ¬ M.2 16 p = nI (16 * b + s)) (e3 : M.2 10 (16 * b + s) ≤ M.1 160) (k : ∀ S', INV ad (TM T (mA (mF M 179 0) 9 (16 * b + s) (nI p))) S' → Q (acc (fun k => if (mA (mF M 179 0) 9 (16 * b + s) (nI p)).2 9 k = nI p then 1 else 0) 80 0 0) S') : wX5_put (ad 15 0 0) (nI b) (nI s) (nI p) S Q := by
  have h5 := v.1
  have n16 := (v.2.1 b hb).2.2.2.2.2.2.2.2.2.1
  have hn : 16 * b + s < 80 := by omega
  refine ⟨m_ok h, mS_y h hN v hb hs ⟨fun z => absurd z w1n, fun _ => mP_y hp ⟨fun z => absurd z w1n, fun _ => ⟨fun z => absurd z w1n, fun _ => ⟨fun _ => ⟨m_ok h, rd 9 h ix16 hn ?_⟩, fun z => absurd z w1n⟩⟩⟩⟩⟩
  rw [mv 9 h ix16 hn, ix16]
  refine ⟨fun z => absurd e1 z, fun z1 => ⟨m_ok h, sm_isPrinting h (fun z2 => ⟨fun z => absurd rfl z, fun _ => ⟨m_ok h, rd 10 h rfl hn ⟨m_ok h, ?_⟩⟩⟩) (fun ⟨p', q1, q2⟩ => absurd q2 (e2 p' q1))⟩⟩
  rw [mv 10 h rfl hn, m_I h]
  refine ⟨fun z3 => ⟨m_ok h, sm_f0 h (fun S4 h4 => ⟨fun _ => ⟨m_ok h4, rd 9 h4 rfl hn (fun S5 e5 => ?_)⟩, fun z => absurd rfl z⟩)⟩, fun z => absurd e3 z⟩
  have h5 := ms 9 h4 rfl hn e5
  exact ⟨81, lp_mput h5 80 0 0 0 rfl nI_0.symm (k S5 h5)⟩
end PU
section PV
variable {a b c d : Nat} {W : HS → Prop} {S : HS} {x y z u w : Int32} {Post : Int32 → HS → Prop}
theorem cs_put (hW : ∀ S, LI a b c d S → W S) (h : LI a b c d S) (k : ∀ r1 S7, (ok S7 b 5 ∧ wX5_put b x y z S7 (fun r2 S8 => TL b c W r1 r2 S8)) → Post r1 S7) : wL_put (some a) x y z (some c) S Post := by
  obtain ⟨ad, T, hI, hR, ht, rfl, rfl, rfl, rfl⟩ := h
  obtain ⟨hI', hN, v⟩ := LIx hI hR
  have bad : ((¬ ∃ b s, b < tN T ∧ s < tS T b ∧ x = nI b ∧ y = nI s) ∨ (∃ b s, b < tN T ∧ s < tS T b ∧ x = nI b ∧ y = nI s) ∧ ¬ ∃ p, p < 3 ∧ z = nI p) → Post 1 S := fun e =>
    k 1 S ⟨m_ok hI', m_put1 hI' hN v e (fun S4 h4 => fin_th hW rfl rfl rfl w1n h4 hR ht)⟩
  have h5 := v.1
  refine ⟨_, rfl, (s_ref hI).1, (s_ref hI).1, ?_⟩
  by_cases zb : ∃ b, b < tN T ∧ x = nI b
  · obtain ⟨b, hb, rfl⟩ := zb
    have n16 : tS T b ≤ 16 := (hR.2.1 b hb).1.2.2.2.2.2.2.2.2.2.1
    have eb : ∀ {b'}, b' < tN T → nI b = nI b' → b' = b := fun h1 h2 => ((nI_eq (by omega) (by omega)).mp h2).symm
    refine cB_y hI hb ?_
    by_cases zs : ∃ s, s < tS T b ∧ y = nI s
    · obtain ⟨s, hs, rfl⟩ := zs
      have yes : ∃ b' s', b' < tN T ∧ s' < tS T b' ∧ nI b = nI b' ∧ nI s = nI s' := ⟨b, s, hb, hs, rfl, rfl⟩
      refine cS_y hI hb hs ⟨(s_ref hI).1, ?_⟩
      by_cases zp : ∃ p, p < 3 ∧ z = nI p
      · obtain ⟨p, hp, rfl⟩ := zp
        refine cP_y hI hp ⟨fun z => (by cases z), fun q e => ⟨fun z => (by cases z), fun q2 e2 => ?_⟩⟩
        cases e
        cases e2
        have v12 : vk T 12 b s := vk12 hb hs (by decide) (by decide)
        obtain ⟨a1, a2, a3, a4⟩ := hR.2.2.2.2.1 b s hb hs
        have bad2 : (¬ (gM T).2 9 (16 * b + s) = -1 ∨ (∃ p, p < 3 ∧ (gM T).2 16 p = nI (16 * b + s)) ∨ ¬ (gM T).2 10 (16 * b + s) ≤ (gM T).1 160) → Post 2 S := fun e =>
          k 2 S ⟨m_ok hI', m_put2 hI' hN v hb hs hp e (fun S4 h4 => fin_th hW rfl rfl rfl w2n h4 hR ht)⟩
        refine ⟨hI.ok v12, ?_⟩
        rw [hI.I v12, hI.I v12, hI.I v12, hI.I (vk0 (by decide)), a1, a2, hR.1.2.2.1]
        refine ⟨fun z1 => Or.inr ⟨rfl, bad2 (Or.inl z1)⟩, fun z1 => ⟨hI.ok v12, fun z2 => Or.inr ⟨rfl, bad2 (Or.inr (Or.inl ?_))⟩, fun z2 => ⟨hI.ok v12, (s_ref hI).1, fun z3 => ⟨hI.ok v12, fun S1 e1 => ?_⟩, fun z3 => Or.inr ⟨rfl, bad2 (Or.inr (Or.inr z3))⟩⟩⟩⟩
        · apply Classical.byContradiction
          intro y
          exact z2 (a3.mpr (fun p' hp' e => y ⟨p', hp', (pr_eq hR hp' hb hs).mpr e⟩))
        · have h1 := inv_sIe hI v12 e1
          refine ⟨(p_bl h1 hp).1, (p_bl h1 hp).1, fun S2 e2 => ?_⟩
          rw [h1.I (vk3 hp (by decide) (by decide)), show tF (uF T 12 b s 102 (nI p)) 3 p 0 69 = tF T 3 p 0 69 from by rw [tF_uF, if_neg (fun y => absurd y.1 (by decide))]] at e2
          have h2 : INV ad (uput T b s p) S2 := inv_sIe h1 (vk3 hp (by decide) (by decide)) e2
          refine ⟨(p_bl h2 hp).1, ?_⟩
          rw [h2.I (vk3 hp (by decide) (by decide))]
          have hnp := a3.mp z2
          have hR2 := RR_put (M := mF (gM T) 179 0) hR hp hb hs z1 hnp
          rw [hR2.2.2.2.2.2.2.2.1 p hp]
          have eg : gM (uput T b s p) = gM T := rfl
          have htp : RRt (uput T b s p) := by
            intro p' hp' hne
            unfold uput
            rw [tF_uF, if_neg (fun y => absurd y.2.2.2 (by decide)), tF_uF, if_neg (fun y => absurd y.1 (by decide))]
            exact ht p' hp' hne
          refine rtn h2 (fun ad' S3 h3 e0 e15 e17 e18 eJ => k 0 S3 ?_)
          rw [← e15] at hW ⊢
          rw [eg] at h3
          exact ⟨m_ok h3, m_put0 h3 hN v hb hs hp z1 (fun p' hp' e => hnp p' hp' ((pr_eq hR hp' hb hs).mp e)) z3 (fun S5 h5 => fin_ok hW e0 e17 e18 eJ rfl h5 rfl hR2 htp)⟩
      · refine cP_n hI zp ⟨fun z => (by cases z), fun q e => ⟨fun _ => Or.inl ⟨rfl, bad (Or.inr ⟨yes, zp⟩)⟩, fun q2 e2 => (by cases e2)⟩⟩
    · have nos : ¬ ∃ b' s, b' < tN T ∧ s < tS T b' ∧ nI b = nI b' ∧ y = nI s := by
        rintro ⟨b', s', h1, h2, h3, h4⟩
        exact zs ⟨s', eb h1 h3 ▸ h2, h4⟩
      refine cS_n hI hb zs ⟨(s_ref hI).1, ?_⟩
      exact sp_printerAt hI (fun _ => ⟨fun _ => Or.inl ⟨rfl, bad (Or.inl nos)⟩, fun q e => (by cases e)⟩) (fun p hp e => ⟨fun _ => Or.inl ⟨rfl, bad (Or.inl nos)⟩, fun q e => (by cases e)⟩)
  · have nob : ¬ ∃ b' s, b' < tN T ∧ s < tS T b' ∧ x = nI b' ∧ y = nI s := by
      rintro ⟨b', s', h1, h2, h3, h4⟩
      exact zb ⟨b', h1, h3⟩
    refine cB_n hI zb (sp_stripAt0 ⟨(s_ref hI).1, ?_⟩)
    exact sp_printerAt hI (fun _ => ⟨fun _ => Or.inl ⟨rfl, bad (Or.inl nob)⟩, fun q e => (by cases e)⟩) (fun p hp e => ⟨fun _ => Or.inl ⟨rfl, bad (Or.inl nob)⟩, fun q e => (by cases e)⟩)
end PV
