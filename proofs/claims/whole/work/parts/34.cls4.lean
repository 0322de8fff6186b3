section CL4
variable {ad : Nat → Nat → Nat → Nat} {T : TT} {S : HS}
theorem lp_dos {p b s c : Nat} {m3 : Int32} (hp : p < 3) (hc : c < 32) {K : Int32 → HS → Prop} : ∀ (d r : Nat) (m : Int32) (T : TT) (S : HS), INV ad T S → vk T 12 b s → r + d = 8 → m = nI r → (∀ S', INV ad (dos8 p b s c d r T) S' → K (nI 8) S') → wX2_layStrip_L20 (ad 3 p 0) (some (ad 6 b 0)) (ad 12 b s) m3 (nI c) (d + 1) m S K := by
  intro d
  induction d with
  | zero =>
    intro r m T S h hv hr hm k
    subst hm
    obtain rfl : r = 8 := by omega
    exact ⟨fun _ => k _ h, fun z => absurd (nI_le (Nat.le_refl 8) (by decide)) z⟩
  | succ d ih =>
    intro r m T S h hv hr hm k
    subst hm
    obtain ⟨hb, hs⟩ := vk12e hv (by decide) (by decide)
    exact ⟨fun z => absurd z (lle (k := 8) (by omega) (by decide)), fun _ => ⟨_, rfl, (b_ref h hb).1, sp_share h hv (by omega) hc ⟨(p_bl h hp).1, sp_setDose h hp (by omega) (fun S1 h1 => ih (r + 1) _ _ S1 h1 hv (by omega) (nI_1 r) k)⟩⟩⟩
theorem lp_lay {p b s c : Nat} (hp : p < 3) (hc : c < 32) {K : Int32 → Int32 → HS → Prop} : ∀ (d r : Nat) (g m : Int32) (T : TT) (S : HS), INV ad T S → vk T 12 b s → r + d = 8 → m = nI r → (∀ S', INV ad (lay8 p b s c d r g T).2 S' → K (lay8 p b s c d r g T).1 (nI 8) S') → wX2_layStrip_L51 (ad 3 p 0) (some (ad 6 b 0)) (ad 12 b s) (nI c) (d + 1) g m S K := by
  intro d
  induction d with
  | zero =>
    intro r g m T S h hv hr hm k
    subst hm
    obtain rfl : r = 8 := by omega
    exact ⟨fun _ => k _ h, fun z => absurd (nI_le (Nat.le_refl 8) (by decide)) z⟩
  | succ d ih =>
    intro r g m T S h hv hr hm k
    subst hm
    obtain ⟨hb, hs⟩ := vk12e hv (by decide) (by decide)
    refine ⟨fun z => absurd z (lle (k := 8) (by omega) (by decide)), fun _ => ⟨(p_bl h hp).1, sp_laidInRow h hp (by omega) ⟨_, rfl, (b_ref h hb).1, sp_layDot h hv (by omega) hc (fun S1 h1 => ?_)⟩⟩⟩
    refine ⟨(p_bl h1 hp).1, (p_bl h1 hp).1, fun S2 e2 => ?_⟩
    rw [h1.I (vk3 hp (by decide) (by decide))] at e2
    have h2 := inv_sIe h1 (vk3 hp (by decide) (by decide)) e2
    refine ih (r + 1) _ _ (ulp p b s (32 * r + c) (noz (tA T 4 p 0) (tA T 5 p 0) (tF T 3 p 0 64) r) T) S2 ?_ hv (by omega) (nI_1 r) k
    have e : tF (ulay T b s (32 * r + c) (noz (tA T 4 p 0) (tA T 5 p 0) (tF T 3 p 0 64) r)) 3 p 0 68 = tF T 3 p 0 68 := by simp [ulay, tF_uF, tF_uA]
    rw [e] at h2
    exact h2
theorem dos_F {p b s c : Nat} : ∀ (d r : Nat) (T : TT) (kd i j z : Nat), tF (dos8 p b s c d r T) kd i j z = tF T kd i j z := by
  intro d
  induction d with
  | zero => intros; rfl
  | succ d ih => intro r T kd i j z; rw [dos8, ih]; rfl
theorem dos_v {p b s c : Nat} : ∀ (d r : Nat) (T : TT), vk (dos8 p b s c d r T) = vk T := by
  intro d
  induction d with
  | zero => intros; rfl
  | succ d ih => intro r T; rw [dos8, ih]; rfl
theorem lay_v {p b s c : Nat} : ∀ (d r : Nat) (g : Int32) (T : TT), vk (lay8 p b s c d r g T).2 = vk T := by
  intro d
  induction d with
  | zero => intros; rfl
  | succ d ih => intro r g T; rw [lay8, ih]; rfl
theorem lay_F {p b s c : Nat} : ∀ (d r : Nat) (g : Int32) (T : TT) (i j z : Nat), tF (lay8 p b s c d r g T).2 12 i j z = tF T 12 i j z := by
  intro d
  induction d with
  | zero => intros; rfl
  | succ d ih =>
    intro r g T i j z
    rw [lay8, ih]
    simp [ulp, ulay, tF_uF, tF_uA]
theorem lp_layC {p b s e : Nat} (hp : p < 3) (he : e ≤ 32) {K : Int32 → Int32 → HS → Prop} : ∀ (d c : Nat) (g m : Int32) (T : TT) (S : HS), INV ad T S → vk T 12 b s → tF T 12 b s 98 = nI e → c + d = e → m = nI c → (∀ S', INV ad (layC p b s d c g T).2 S' → K (layC p b s d c g T).1 (nI e) S') → wX2_layStrip_L8 (ad 3 p 0) (some (ad 6 b 0)) (ad 12 b s) (d + 1) g m S K := by
  intro d
  induction d with
  | zero =>
    intro c g m T S h hv h98 hc hm k
    subst hm
    obtain rfl : c = e := by omega
    refine ⟨h.ok hv, ?_⟩
    rw [h.I hv, h98]
    exact ⟨fun _ => k _ h, fun z => absurd (nI_le (Nat.le_refl c) (by omega)) z⟩
  | succ d ih =>
    intro c g m T S h hv h98 hc hm k
    subst hm
    refine ⟨h.ok hv, ?_⟩
    rw [h.I hv, h98]
    refine ⟨fun z => absurd z (nI_ge (by omega) (by omega)), fun _ => ⟨9, lp_dos hp (by omega) 8 0 0 T S h hv rfl nI_0.symm (fun S1 h1 => ⟨9, lp_lay hp (by omega) 8 0 g 0 _ S1 h1 (by rw [dos_v]; exact hv) rfl nI_0.symm (fun S2 h2 => ?_)⟩)⟩⟩
    exact ih (c + 1) _ _ _ S2 h2 (by rw [lay_v, dos_v]; exact hv) (by rw [lay_F, dos_F]; exact h98) (by omega) (nI_1 c) k
theorem sp_layStrip (h : INV ad T S) {p b s f e : Nat} (hp : p < 3) (hv : vk T 12 b s) (hf : tF T 12 b s 97 = nI f) (he : tF T 12 b s 98 = nI e) (hfe : f ≤ e) (he32 : e ≤ 32) {Q : Int32 → HS → Prop} (k : ∀ S', INV ad (layC p b s (e - f) f 0 T).2 S' → Q (layC p b s (e - f) f 0 T).1 S') : wX2_layStrip (ad 3 p 0) (some (ad 6 b 0)) (some (ad 12 b s)) S Q := by
  refine ⟨_, rfl, h.ok hv, ⟨e - f + 1, ?_⟩⟩
  rw [h.I hv, hf]
  exact lp_layC hp he32 (e - f) f 0 (nI f) T S h hv he (by omega) rfl k
theorem layC_v {p b s : Nat} : ∀ (d c : Nat) (g : Int32) (T : TT), vk (layC p b s d c g T).2 = vk T := by
  intro d
  induction d with
  | zero => intros; rfl
  | succ d ih => intro c g T; rw [layC, ih, lay_v, dos_v]
/-- a tick of a printer: does it end its strip, and what then is -/
def utick (T : TT) (p : Nat) : TT := uF T 3 p 0 73 (tF T 3 p 0 73 - 1)
def uend (T : TT) (p b s f e : Nat) (now : Int32) : TT :=
  uP (uB (uF (uF (layC p b s (e - f) f 0 (utick T p)).2 12 b s 104 (now + (layC p b s (e - f) f 0 (utick T p)).1)) 12 b s 103 0) p none) p none
theorem sp_endsStrip0 (h : INV ad T S) {p : Nat} (hp : p < 3) {now : Int32} (hB : tB T p = none) {Q : Int32 → HS → Prop} (k : Q 0 S) : wX2_endsStrip (ad 3 p 0) now S Q := by
  obtain ⟨-, -, a3, a4⟩ := h.2.1.2.2.2.1 p hp
  rw [hB] at a3
  exact ⟨(p_bl h hp).1, fun o1 e1 => ⟨(p_bl h hp).1, fun o2 e2 => ⟨fun _ => k, fun q e => by rw [e1, a3] at e; cases e⟩⟩⟩
theorem sp_endsStrip (h : INV ad T S) {p b s f e : Nat} (hp : p < 3) {now : Int32} (hB : tB T p = some b) (hP : tP T p = some (b, s)) (hv : vk T 12 b s) (hf : tF T 12 b s 97 = nI f) (he : tF T 12 b s 98 = nI e) (hfe : f ≤ e) (he32 : e ≤ 32) {Q : Int32 → HS → Prop} (k0 : ¬ tF T 3 p 0 73 - 1 ≤ 0 → ∀ S', INV ad (utick T p) S' → Q 0 S') (k1 : tF T 3 p 0 73 - 1 ≤ 0 → ∀ S', INV ad (uend T p b s f e now) S' → Q 1 S') : wX2_endsStrip (ad 3 p 0) now S Q := by
  obtain ⟨-, -, a3, a4⟩ := h.2.1.2.2.2.1 p hp
  rw [hB] at a3
  rw [hP] at a4
  have v3 : ∀ T' : TT, vk T' 3 p 0 := fun _ => vk3 hp (by decide) (by decide)
  refine ⟨(p_bl h hp).1, fun o1 e1 => ⟨(p_bl h hp).1, fun o2 e2 => ⟨fun q => (by rw [e1, a3] at q; cases q), fun q1 eq1 => ⟨fun q => (by rw [e2, a4] at q; cases q), fun q2 eq2 => ?_⟩⟩⟩⟩
  have eq1' : q1 = ad 6 b 0 := by rw [e1, a3] at eq1; exact (Option.some.inj eq1).symm
  have eq2' : q2 = ad 12 b s := by rw [e2, a4] at eq2; exact (Option.some.inj eq2).symm
  subst eq1' eq2'
  refine ⟨(p_bl h hp).1, (p_bl h hp).1, fun S1 es1 => ?_⟩
  rw [h.I (v3 _)] at es1
  have h1 := inv_sIe h (v3 _) es1
  refine ⟨(p_bl h1 hp).1, ?_⟩
  rw [h1.I (v3 _), show tF (uF T 3 p 0 73 (tF T 3 p 0 73 - 1)) 3 p 0 73 = tF T 3 p 0 73 - 1 from by rw [tF_uF, if_pos ⟨rfl, rfl, rfl, rfl⟩]]
  refine ⟨fun z => ⟨(p_bl h1 hp).1, ?_⟩, fun z => k0 z S1 h1⟩
  have f1 : tF (utick T p) 12 b s 97 = nI f := by rw [← hf]; simp [utick, tF_uF]
  have f2 : tF (utick T p) 12 b s 98 = nI e := by rw [← he]; simp [utick, tF_uF]
  have h1' : INV ad (utick T p) S1 := h1
  refine sp_layStrip h1' hp hv f1 f2 hfe he32 (fun S2 h2 => ?_)
  have hv2 : vk (layC p b s (e - f) f 0 (utick T p)).2 12 b s := by rw [layC_v]; exact hv
  refine ⟨h2.ok hv2, fun S3 e3 => ?_⟩
  have h3 := inv_sIe h2 hv2 e3
  refine ⟨h3.ok hv2, fun S4 e4 => ?_⟩
  have h4 := inv_sIe h3 hv2 e4
  refine ⟨(p_bl h4 hp).1, fun S5 e5 => ?_⟩
  have h5 := inv_sR70e h4 hp none e5
  refine ⟨(p_bl h5 hp).1, fun S6 e6 => ?_⟩
  exact k1 z S6 (inv_sR71e h5 hp none e6)
end CL4
