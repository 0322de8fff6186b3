/-! Calls that only ask: strips, toLay, prints, dry, ink, used -/
theorem cink_eq {T : TT} {M : MM} {b n : Nat} (h : RR T M) (hb : b < tN T) (hn : n < 256) : cink T b n = mink M b (256 * b + n) := by
  unfold cink mink
  rw [(h.2.1 b hb).2.2.1, ((h.2.2.1 b hb).2 n hn).2]
theorem cerr_eq {T : TT} {M : MM} {b n : Nat} (h : RR T M) (hb : b < tN T) (hn : n < 256) : cerr T b n = merr M b (256 * b + n) := by
  unfold cerr merr
  rw [cink_eq h hb hn, ((h.2.2.1 b hb).2 n hn).1]
theorem n_of {x : Int32} {lo hi : Nat} (h : nI lo ≤ x ∧ x ≤ nI hi) (hlo : lo < 2 ^ 31) (hhi : hi < 2 ^ 31) : ∃ n, lo ≤ n ∧ n ≤ hi ∧ x = nI n := by
  have h0 : ¬ x < 0 := Int32.not_lt.mpr (Int32.le_trans (nI_pos' hlo) h.1)
  obtain ⟨j, hj, rfl⟩ := nI_of h0
  exact ⟨j, (nI_leI hlo hj).mp h.1, (nI_leI hj hhi).mp h.2, rfl⟩
section QS
variable {a b c d : Nat} {W : HS → Prop} {S : HS} {x y z u : Int32} {Post : Int32 → HS → Prop}
theorem cs_strips (hW : ∀ S, LI a b c d S → W S) (h : LI a b c d S) (k : ∀ r1 S7, (ok S7 b 5 ∧ wX5_strips b x S7 (fun r2 S8 => TL b c W r1 r2 S8)) → Post r1 S7) : wL_strips (some a) x (some c) S Post := by
  obtain ⟨ad, T, hI, hR, ht, rfl, rfl, rfl, rfl⟩ := h
  obtain ⟨hI', hN, v⟩ := LIx hI hR
  refine ⟨_, rfl, (s_ref hI).1, (s_ref hI).1, ?_⟩
  by_cases z : ∃ b, b < tN T ∧ x = nI b
  · obtain ⟨b, hb, rfl⟩ := z
    have h5 := v.1
    refine cB_y hI hb ⟨fun z => (by cases z), fun q e => ?_⟩
    cases e
    refine ⟨(b_ref hI hb).1, ?_⟩
    rw [hI.I (vk6 hb (by decide) (by decide)), (hR.2.1 b hb).2.2.2.2.1]
    refine rtn hI (fun ad' S3 h3 e0 e15 e17 e18 eJ => k 0 S3 ?_)
    rw [← e15] at hW ⊢
    exact ⟨m_ok h3, m_ok h3, mB_y h3 hN v hb ⟨fun z => absurd z w1n, fun _ => f0 h3 (fun S4 h4 => ⟨m_ok h4, sm_stripsOf h4 (v.2.1 b hb) (by omega) (fin_ok hW e0 e17 e18 eJ rfl h4 rfl hR ht)⟩)⟩⟩
  · refine cB_n hI z ⟨fun _ => ⟨rfl, k 1 S ?_⟩, fun q e => (by cases e)⟩
    exact ⟨m_ok hI', m_ok hI', mB_n hI' hN v z ⟨fun _ => f1 hI' w1 (fun S4 h4 => fin_th hW rfl rfl rfl w1n h4 hR ht), fun z => absurd rfl z⟩⟩
theorem m_toLay1 {ad : Nat → Nat → Nat → Nat} {T : TT} {M : MM} (h : INV ad (TM T M) S) (hN : M.1 161 = nI (tN T)) (v : MVal M (tN T) (tS T)) {Q : Int32 → HS → Prop} (e : (¬ ∃ b s, b < tN T ∧ s < tS T b ∧ x = nI b ∧ y = nI s) ∨ (∃ b s, b < tN T ∧ s < tS T b ∧ x = nI b ∧ y = nI s) ∧ ¬ ∃ b r c, b < tN T ∧ r < 8 ∧ c < gC M b ∧ x = nI b ∧ z = nI r ∧ u = nI c) (k : ∀ S', INV ad (TM T (mF M 179 1)) S' → Q 0 S') : wX5_toLay (ad 15 0 0) x y z u S Q := by
  rcases e with e | ⟨⟨b, s, hb, hs, rfl, rfl⟩, e⟩
  · exact ⟨m_ok h, mS_n h hN v e ⟨fun _ => ⟨fun _ => f1 h w1 k, fun z => absurd rfl z⟩, fun z => absurd rfl z⟩⟩
  · exact ⟨m_ok h, mS_y h hN v hb hs ⟨fun z => absurd z w1n, fun _ => ⟨m_ok h, mD_n h hN v e ⟨fun _ => ⟨fun _ => f1 h w1 k, fun z => absurd rfl z⟩, fun z => absurd rfl z⟩⟩⟩⟩
theorem cs_toLay (hW : ∀ S, LI a b c d S → W S) (h : LI a b c d S) (k : ∀ r1 S7, (ok S7 b 5 ∧ wX5_toLay b x y z u S7 (fun r2 S8 => TL b c W r1 r2 S8)) → Post r1 S7) : wL_toLay (some a) x y z u (some c) S Post := by
  obtain ⟨ad, T, hI, hR, ht, rfl, rfl, rfl, rfl⟩ := h
  obtain ⟨hI', hN, v⟩ := LIx hI hR
  have bad : ((¬ ∃ b s, b < tN T ∧ s < tS T b ∧ x = nI b ∧ y = nI s) ∨ (∃ b s, b < tN T ∧ s < tS T b ∧ x = nI b ∧ y = nI s) ∧ ¬ ∃ b r c, b < tN T ∧ r < 8 ∧ c < gC (gM T) b ∧ x = nI b ∧ z = nI r ∧ u = nI c) → Post 1 S := fun e =>
    k 1 S ⟨m_ok hI', m_toLay1 hI' hN v e (fun S4 h4 => fin_th hW rfl rfl rfl w1n h4 hR ht)⟩
  have h5 := v.1
  refine ⟨_, rfl, (s_ref hI).1, (s_ref hI).1, ?_⟩
  by_cases zb : ∃ b, b < tN T ∧ x = nI b
  · obtain ⟨b, hb, rfl⟩ := zb
    have n16 : tS T b ≤ 16 := (hR.2.1 b hb).1.2.2.2.2.2.2.2.2.2.1
    have c32 : gC (gM T) b ≤ 32 := (hR.2.1 b hb).1.2.2.2.2.1
    have eb : ∀ {b'}, b' < tN T → nI b = nI b' → b' = b := fun h1 h2 => ((nI_eq (by omega) (by omega)).mp h2).symm
    refine cB_y hI hb ?_
    by_cases zs : ∃ s, s < tS T b ∧ y = nI s
    · obtain ⟨s, hs, rfl⟩ := zs
      have yes : ∃ b' s', b' < tN T ∧ s' < tS T b' ∧ nI b = nI b' ∧ nI s = nI s' := ⟨b, s, hb, hs, rfl, rfl⟩
      refine cS_y hI hb hs ⟨fun z => (by cases z), fun q e => ⟨fun z => (by cases z), fun q2 e2 => ?_⟩⟩
      cases e
      cases e2
      by_cases zr : ∃ r, r < 8 ∧ z = nI r
      · obtain ⟨r, hr, rfl⟩ := zr
        refine cR_y hr ⟨fun z => absurd z w1n, fun _ => ⟨(b_ref hI hb).1, ?_⟩⟩
        by_cases zc : ∃ c, c < gC (gM T) b ∧ u = nI c
        · obtain ⟨c, hc, rfl⟩ := zc
          refine cC_y hI hb (hR.2.1 b hb).2.1 c32 hc ⟨fun _ => ⟨(b_ref hI hb).1, sp_share hI (vk12 hb hs (by decide) (by decide)) hr (by omega) ?_⟩, fun z => absurd z w1n⟩
          rw [share_eq (hR.2.1 b hb) hs (by omega), ((hR.2.2.1 b hb).2 (32 * r + c) (by omega)).1, ← Nat.add_assoc]
          refine rtn hI (fun ad' S3 h3 e0 e15 e17 e18 eJ => k 0 S3 ?_)
          rw [← e15] at hW ⊢
          exact ⟨m_ok h3, m_ok h3, mS_y h3 hN v hb hs ⟨fun z => absurd z w1n, fun _ => ⟨m_ok h3, mD_y h3 hN v hb hr hc ⟨fun z => absurd z w1n, fun _ => ⟨fun z => absurd z w1n, fun _ => f0 h3 (fun S4 h4 => ⟨m_ok h4, sm_lays h4 (v.2.1 b hb) (by omega) hs hr (by omega) (fin_ok hW e0 e17 e18 eJ rfl h4 rfl hR ht)⟩)⟩⟩⟩⟩⟩
        · refine cC_n hI hb (hR.2.1 b hb).2.1 c32 zc ⟨fun z => absurd rfl z, fun _ => ⟨rfl, bad (Or.inr ⟨yes, ?_⟩)⟩⟩
          rintro ⟨b', r', c', h1, h2, h3, h4, h5, h6⟩
          exact zc ⟨c', eb h1 h4 ▸ h3, h6⟩
      · refine cR_n zr ⟨fun _ => ⟨rfl, bad (Or.inr ⟨yes, ?_⟩)⟩, fun z => absurd rfl z⟩
        rintro ⟨b', r', c', h1, h2, h3, h4, h5, h6⟩
        exact zr ⟨r', h2, h5⟩
    · refine cS_n hI hb zs ⟨fun z => (by cases z), fun q e => ⟨fun _ => ⟨rfl, bad (Or.inl ?_)⟩, fun q2 e2 => (by cases e2)⟩⟩
      rintro ⟨b', s', h1, h2, h3, h4⟩
      exact zs ⟨s', eb h1 h3 ▸ h2, h4⟩
  · refine cB_n hI zb (sp_stripAt0 ⟨fun _ => ⟨rfl, bad (Or.inl ?_)⟩, fun q e => (by cases e)⟩)
    rintro ⟨b', s', h1, h2, h3, h4⟩
    exact zb ⟨b', h1, h3⟩
theorem cs_prints (hW : ∀ S, LI a b c d S → W S) (h : LI a b c d S) (k : ∀ r1 S7, (ok S7 b 5 ∧ wX5_prints b x S7 (fun r2 S8 => TL b c W r1 r2 S8)) → Post r1 S7) : wL_prints (some a) x (some c) S Post := by
  obtain ⟨ad, T, hI, hR, ht, rfl, rfl, rfl, rfl⟩ := h
  obtain ⟨hI', hN, v⟩ := LIx hI hR
  refine ⟨_, rfl, (s_ref hI).1, (s_ref hI).1, ?_⟩
  by_cases z : ∃ p, p < 3 ∧ x = nI p
  · obtain ⟨p, hp, rfl⟩ := z
    have h5 := v.1
    refine cP_y hI hp ⟨fun z => (by cases z), fun q e => ?_⟩
    cases e
    obtain ⟨q1, q2⟩ := hR.2.2.2.2.2.2.1 p hp
    have r71 := (hI.2.1.2.2.2.1 p hp).2.2.2
    refine ⟨(p_bl hI hp).1, fun o ho => ?_⟩
    rw [r71] at ho
    subst ho
    cases w : tP T p with
    | none =>
      refine ⟨fun _ => ?_, fun q e => (by cases e)⟩
      refine rtn hI (fun ad' S3 h3 e0 e15 e17 e18 eJ => k 0 S3 ?_)
      rw [← e15] at hW ⊢
      refine ⟨m_ok h3, mP_y hp ⟨fun z => absurd z w1n, fun _ => f0 h3 (fun S4 h4 => ⟨m_ok h4, rd 16 h4 rfl hp ?_⟩)⟩⟩
      rw [mv 16 h4 rfl hp, mF_2, (q1 w).2]
      exact ⟨fun z => absurd rfl z, fun _ => fin_ok hW e0 e17 e18 eJ rfl h4 rfl hR ht⟩
    | some t =>
      obtain ⟨b, s⟩ := t
      obtain ⟨b1, b2, b3, b4, b5, -⟩ := q2 (b, s) w
      have b2 : b < tN T := b2
      have b3 : s < tS T b := b3
      have b4 : (gM T).2 16 p = nI (16 * b + s) := b4
      have b5 : tF T 3 p 0 72 = nI b := b5
      have n16 : tS T b ≤ 16 := (hR.2.1 b b2).1.2.2.2.2.2.2.2.2.2.1
      refine ⟨fun e => (by cases e), fun q e => ?_⟩
      cases e
      refine ⟨(p_bl hI hp).1, hI.ok (vk12 b2 b3 (by decide) (by decide)), ?_⟩
      rw [hI.I (vk3 hp (by decide) (by decide)), hI.I (vk12 b2 b3 (by decide) (by decide)), b5, ((hR.2.1 b b2).2.2.2.2.2 s b3).1]
      refine rtn hI (fun ad' S3 h3 e0 e15 e17 e18 eJ => k 0 S3 ?_)
      rw [← e15] at hW ⊢
      refine ⟨m_ok h3, mP_y hp ⟨fun z => absurd z w1n, fun _ => f0 h3 (fun S4 h4 => ⟨m_ok h4, rd 16 h4 rfl hp ?_⟩)⟩⟩
      rw [mv 16 h4 rfl hp, mF_2, b4]
      refine ⟨fun _ => fin_ok hW e0 e17 e18 eJ ?_ h4 rfl hR ht, fun z => absurd z (one_pos (by omega))⟩
      rw [show nI (16 * b + s) - nI (16 * b + s) / (16 : Int32) * (16 : Int32) = nI ((16 * b + s) % 16) from pk_rem (d := 16) (by omega) (by omega) (by omega), show nI (16 * b + s) / (16 : Int32) = nI ((16 * b + s) / 16) from pk_div (d := 16) (by omega) (by omega) (by omega), show (16 * b + s) / 16 = b from by omega, show (16 * b + s) % 16 = s from by omega]
  · refine cP_n hI z ⟨fun _ => ⟨rfl, k 1 S ?_⟩, fun q e => (by cases e)⟩
    exact ⟨m_ok hI', mP_n z ⟨fun _ => f1 hI' w1 (fun S4 h4 => fin_th hW rfl rfl rfl w1n h4 hR ht), fun z => absurd rfl z⟩⟩
theorem cs_dry (hW : ∀ S, LI a b c d S → W S) (h : LI a b c d S) (k : ∀ r1 S7, (ok S7 b 5 ∧ wX5_dry b x y S7 (fun r2 S8 => TL b c W r1 r2 S8)) → Post r1 S7) : wL_dry (some a) x y (some c) S Post := by
  obtain ⟨ad, T, hI, hR, ht, rfl, rfl, rfl, rfl⟩ := h
  obtain ⟨hI', hN, v⟩ := LIx hI hR
  have bad : (¬ ∃ b s, b < tN T ∧ s < tS T b ∧ x = nI b ∧ y = nI s) → Post 1 S := fun e =>
    k 1 S ⟨m_ok hI', m_ok hI', mS_n hI' hN v e ⟨fun _ => f1 hI' w1 (fun S4 h4 => fin_th hW rfl rfl rfl w1n h4 hR ht), fun z => absurd rfl z⟩⟩
  have h5 := v.1
  refine ⟨_, rfl, (s_ref hI).1, (s_ref hI).1, ?_⟩
  by_cases zb : ∃ b, b < tN T ∧ x = nI b
  · obtain ⟨b, hb, rfl⟩ := zb
    have n16 : tS T b ≤ 16 := (hR.2.1 b hb).1.2.2.2.2.2.2.2.2.2.1
    have eb : ∀ {b'}, b' < tN T → nI b = nI b' → b' = b := fun h1 h2 => ((nI_eq (by omega) (by omega)).mp h2).symm
    refine cB_y hI hb ?_
    by_cases zs : ∃ s, s < tS T b ∧ y = nI s
    · obtain ⟨s, hs, rfl⟩ := zs
      refine cS_y hI hb hs ⟨fun z => (by cases z), fun q2 e2 => ?_⟩
      cases e2
      refine ⟨hI.ok (vk12 hb hs (by decide) (by decide)), ?_⟩
      rw [hI.I (vk12 hb hs (by decide) (by decide)), (hR.2.2.2.2.1 b s hb hs).2.1]
      refine rtn hI (fun ad' S3 h3 e0 e15 e17 e18 eJ => k 0 S3 ?_)
      rw [← e15] at hW ⊢
      refine ⟨m_ok h3, m_ok h3, mS_y h3 hN v hb hs ⟨fun z => absurd z w1n, fun _ => f0 h3 (fun S4 h4 => ⟨m_ok h4, rd 10 h4 ix16 (show 16 * b + s < 80 by omega) ?_⟩)⟩⟩
      rw [mv 10 h4 ix16 (show 16 * b + s < 80 by omega)]
      exact fin_ok hW e0 e17 e18 eJ rfl h4 rfl hR ht
    · refine cS_n hI hb zs ⟨fun _ => ⟨rfl, bad ?_⟩, fun q2 e2 => (by cases e2)⟩
      rintro ⟨b', s', h1, h2, h3, h4⟩
      exact zs ⟨s', eb h1 h3 ▸ h2, h4⟩
  · refine cB_n hI zb (sp_stripAt0 ⟨fun _ => ⟨rfl, bad ?_⟩, fun q e => (by cases e)⟩)
    rintro ⟨b', s', h1, h2, h3, h4⟩
    exact zb ⟨b', h1, h3⟩
theorem cs_ink (hW : ∀ S, LI a b c d S → W S) (h : LI a b c d S) (k : ∀ r1 S7, (ok S7 b 5 ∧ wX5_ink b x y z S7 (fun r2 S8 => TL b c W r1 r2 S8)) → Post r1 S7) : wL_ink (some a) x y z (some c) S Post := by
  obtain ⟨ad, T, hI, hR, ht, rfl, rfl, rfl, rfl⟩ := h
  obtain ⟨hI', hN, v⟩ := LIx hI hR
  have bad : (¬ ∃ b r c, b < tN T ∧ r < 8 ∧ c < gC (gM T) b ∧ x = nI b ∧ y = nI r ∧ z = nI c) → Post 1 S := fun e =>
    k 1 S ⟨m_ok hI', m_ok hI', mD_n hI' hN v e ⟨fun _ => f1 hI' w1 (fun S4 h4 => fin_th hW rfl rfl rfl w1n h4 hR ht), fun z => absurd rfl z⟩⟩
  have h5 := v.1
  refine ⟨_, rfl, (s_ref hI).1, (s_ref hI).1, ?_⟩
  by_cases zb : ∃ b, b < tN T ∧ x = nI b
  · obtain ⟨b, hb, rfl⟩ := zb
    have c32 : gC (gM T) b ≤ 32 := (hR.2.1 b hb).1.2.2.2.2.1
    have eb : ∀ {b'}, b' < tN T → nI b = nI b' → b' = b := fun h1 h2 => ((nI_eq (by omega) (by omega)).mp h2).symm
    refine cB_y hI hb ⟨fun z => (by cases z), fun q e => ?_⟩
    cases e
    by_cases zr : ∃ r, r < 8 ∧ y = nI r
    · obtain ⟨r, hr, rfl⟩ := zr
      refine cR_y hr ⟨fun z => absurd z w1n, fun _ => ⟨(b_ref hI hb).1, ?_⟩⟩
      by_cases zc : ∃ c, c < gC (gM T) b ∧ z = nI c
      · obtain ⟨c, hc, rfl⟩ := zc
        refine cC_y hI hb (hR.2.1 b hb).2.1 c32 hc ⟨fun _ => ⟨(b_ref hI hb).1, sp_inkAt hI hb hr (by omega) ?_⟩, fun z => absurd z w1n⟩
        rw [cink_eq hR hb (by omega), ← Nat.add_assoc]
        refine rtn hI (fun ad' S3 h3 e0 e15 e17 e18 eJ => k 0 S3 ?_)
        rw [← e15] at hW ⊢
        exact ⟨m_ok h3, m_ok h3, mD_y h3 hN v hb hr hc ⟨fun z => absurd z w1n, fun _ => f0 h3 (fun S4 h4 => ⟨m_ok h4, sm_inkOf h4 (by omega) hr (by omega) (fin_ok hW e0 e17 e18 eJ rfl h4 rfl hR ht)⟩)⟩⟩
      · refine cC_n hI hb (hR.2.1 b hb).2.1 c32 zc ⟨fun z => absurd rfl z, fun _ => ⟨rfl, bad ?_⟩⟩
        rintro ⟨b', r', c', h1, h2, h3, h4, h5, h6⟩
        exact zc ⟨c', eb h1 h4 ▸ h3, h6⟩
    · refine cR_n zr ⟨fun _ => ⟨rfl, bad ?_⟩, fun z => absurd rfl z⟩
      rintro ⟨b', r', c', h1, h2, h3, h4, h5, h6⟩
      exact zr ⟨r', h2, h5⟩
  · refine cB_n hI zb ⟨fun _ => ⟨rfl, bad ?_⟩, fun q e => (by cases e)⟩
    rintro ⟨b', r', c', h1, h2, h3, h4, h5, h6⟩
    exact zb ⟨b', h1, h4⟩
theorem cs_used (hW : ∀ S, LI a b c d S → W S) (h : LI a b c d S) (k : ∀ r1 S7, (ok S7 b 5 ∧ wX5_used b x y S7 (fun r2 S8 => TL b c W r1 r2 S8)) → Post r1 S7) : wL_used (some a) x y (some c) S Post := by
  obtain ⟨ad, T, hI, hR, ht, rfl, rfl, rfl, rfl⟩ := h
  obtain ⟨hI', hN, v⟩ := LIx hI hR
  have h5 := v.1
  refine ⟨_, rfl, (s_ref hI).1, fun zx => ⟨(s_ref hI).1, ?_⟩, fun zx => ⟨(s_ref hI).1, ?_⟩⟩
  · by_cases z : ∃ p, p < 3 ∧ y = nI p
    · obtain ⟨p, hp, rfl⟩ := z
      refine cP_y hI hp ⟨fun z => (by cases z), fun q e => ?_⟩
      cases e
      refine ⟨(p_bl hI hp).1, ?_⟩
      rw [hI.I (vk3 hp (by decide) (by decide)), (hR.2.2.2.2.2.1 p hp).2.2.2]
      refine rtn hI (fun ad' S3 h3 e0 e15 e17 e18 eJ => k 0 S3 ?_)
      rw [← e15] at hW ⊢
      refine ⟨m_ok h3, fun _ => mP_y hp ⟨fun z => absurd z w1n, fun _ => f0 h3 (fun S4 h4 => ⟨fun _ => ⟨m_ok h4, rd 15 h4 rfl hp ?_⟩, fun y => absurd zx y⟩)⟩, fun y => absurd zx y⟩
      rw [mv 15 h4 rfl hp]
      exact fin_ok hW e0 e17 e18 eJ rfl h4 rfl hR ht
    · refine cP_n hI z ⟨fun _ => ⟨rfl, k 1 S ?_⟩, fun q e => (by cases e)⟩
      exact ⟨m_ok hI', fun _ => mP_n z ⟨fun _ => f1 hI' w1 (fun S4 h4 => fin_th hW rfl rfl rfl w1n h4 hR ht), fun z => absurd rfl z⟩, fun y => absurd zx y⟩
  · by_cases z : ∃ b, b < tN T ∧ y = nI b
    · obtain ⟨b, hb, rfl⟩ := z
      refine cB_y hI hb ⟨fun z => (by cases z), fun q e => ?_⟩
      cases e
      refine ⟨(b_ref hI hb).1, ?_⟩
      rw [hI.I (vk6 hb (by decide) (by decide)), (hR.2.2.1 b hb).1]
      refine rtn hI (fun ad' S3 h3 e0 e15 e17 e18 eJ => k 0 S3 ?_)
      rw [← e15] at hW ⊢
      refine ⟨m_ok h3, fun y => absurd y zx, fun _ => ⟨m_ok h3, mB_y h3 hN v hb ⟨fun z => absurd z w1n, fun _ => f0 h3 (fun S4 h4 => ⟨fun y => absurd y zx, fun _ => ⟨m_ok h4, rd 11 h4 rfl (show b < 5 by omega) ?_⟩⟩)⟩⟩⟩
      rw [mv 11 h4 rfl (show b < 5 by omega)]
      exact fin_ok hW e0 e17 e18 eJ rfl h4 rfl hR ht
    · refine cB_n hI z ⟨fun _ => ⟨rfl, k 1 S ?_⟩, fun q e => (by cases e)⟩
      exact ⟨m_ok hI', fun y => absurd y zx, fun _ => ⟨m_ok hI', mB_n hI' hN v z ⟨fun _ => f1 hI' w1 (fun S4 h4 => fin_th hW rfl rfl rfl w1n h4 hR ht), fun z => absurd rfl z⟩⟩⟩
end QS
