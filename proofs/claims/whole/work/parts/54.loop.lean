/-! The law's loop -/
theorem lp_law {L : Nat} {xs : Nat → Int32} {a b c d : Nat} {K : Int32 → HS → Prop} (hL : L ≤ 3072) (hK : ∀ m S, K m S) : ∀ (n i : Nat) (m : Int32) (S : HS), LI a b c d S → i ≤ L → L < i + 6 * n → m = nI i → wL_law_L28 L xs a b c d n m S K := by
  intro n
  induction n with
  | zero => intro i m S h h1 h2; omega
  | succ n ih =>
    intro i m S h h1 h2 hm
    subst hm
    refine ⟨fun _ => hK _ _, fun z => ?_⟩
    have hi : i + 6 ≤ L := by
      rcases Nat.lt_or_ge L (i + 6) with y | y
      · exfalso
        apply z
        rcases Nat.lt_or_ge L 6 with w | w
        · exact Int32.lt_of_lt_of_le (show Int32.ofNat L - 6 < 0 from pk_sneg (a := L) (b := 6) (by decide) w) (nI_pos' (by omega))
        · rw [show Int32.ofNat L - 6 = nI (L - 6) from pk_sub (a := L) (b := 6) w]
          exact nI_lt (by omega) (by omega)
      · exact y
    have hW : ∀ S, LI a b c d S → wL_law_L28 L xs a b c d n (nI i + 6) S K := fun S h => ih (i + 6) _ S h hi (by omega) (nI_add i 6)
    have vv : ∀ k, k < 6 → vp_in (nI i + nI k) L := fun k hk => by rw [nI_add]; exact vp_in_nI (by omega) (by omega)
    have v1 : vp_in (nI i + 1) L := vv 1 (by omega)
    have v2 : vp_in (nI i + 2) L := vv 2 (by omega)
    have v3 : vp_in (nI i + 3) L := vv 3 (by omega)
    have v4 : vp_in (nI i + 4) L := vv 4 (by omega)
    have v5 : vp_in (nI i + 5) L := vv 5 (by omega)
    refine ⟨vp_in_nI (by omega) (by omega), fun xx exx => ⟨fun _ => ⟨v1, v2, v3, v4, v5, cs_begin hW h (fun r1 S7 hm => ⟨v1, v2, v3, v4, v5, hm⟩)⟩,
      fun _ => ⟨v1, v2, v3, v4, v5, cs_fill hW h (fun r1 S7 hm => ⟨v1, v2, v3, v4, v5, hm⟩)⟩,
      fun _ => ⟨v1, cs_strips hW h (fun r1 S7 hm => ⟨v1, hm⟩)⟩,
      fun _ => ⟨v1, v2, v3, v4, cs_toLay hW h (fun r1 S7 hm => ⟨v1, v2, v3, v4, hm⟩)⟩,
      fun _ => ⟨v1, v2, cs_setGain hW h (fun r1 S7 hm => ⟨v1, v2, hm⟩)⟩,
      fun _ => ⟨v1, cs_match hW h (fun r1 S7 hm => ⟨v1, hm⟩)⟩,
      fun _ => ⟨v1, v2, cs_block hW h (fun r1 S7 hm => ⟨v1, v2, hm⟩)⟩,
      fun _ => ⟨v1, cs_clean hW h (fun r1 S7 hm => ⟨v1, hm⟩)⟩,
      fun _ => ⟨v1, v2, v3, cs_patch hW h (fun r1 S7 hm => ⟨v1, v2, v3, hm⟩)⟩,
      fun _ => ⟨v1, v2, v3, cs_put hW h (fun r1 S7 hm => ⟨v1, v2, v3, hm⟩)⟩,
      fun _ => ⟨v1, cs_pass hW h (fun r1 S7 hm => ⟨v1, hm⟩)⟩,
      fun _ => ⟨v1, cs_prints hW h (fun r1 S7 hm => ⟨v1, hm⟩)⟩,
      fun _ => ⟨v1, v2, cs_dry hW h (fun r1 S7 hm => ⟨v1, v2, hm⟩)⟩,
      fun _ => ⟨v1, v2, v3, cs_ink hW h (fun r1 S7 hm => ⟨v1, v2, v3, hm⟩)⟩,
      fun _ => ⟨v1, cs_spilt hW h (fun r1 S7 hm => ⟨v1, hm⟩)⟩,
      fun _ => ⟨v1, fun z => ⟨v2, cs_used hW h (fun r1 S7 hm => ⟨v1, fun _ => ⟨v2, hm⟩, fun y => absurd z y⟩)⟩, fun z => ⟨v2, cs_used hW h (fun r1 S7 hm => ⟨v1, fun y => absurd y z, fun _ => ⟨v2, hm⟩⟩)⟩⟩,
      fun _ => ⟨v1, v2, cs_seam hW h (fun r1 S7 hm => ⟨v1, v2, hm⟩)⟩,
      fun _ => ⟨v1, cs_meanError hW h (fun r1 S7 hm => ⟨v1, hm⟩)⟩, hW S h⟩⟩
