/-! The heap by keys: what lies at the address ad kd i j. Kinds: 0 shop, 1 its banners, 2 its printers, 3 printer i, 4 its blocked, 5 its doses, 6 banner i, 7 its levels, 8 their numbers, 9 its laid, 10 their numbers, 11 its parts, 12 strip j of banner i, 13 its laid, 14 their numbers, 15 the reference, 16 its array i, 17 out, 18 outD. T: int fields, int arrays, the printers' banner and strip, how many banners, how many strips -/
abbrev TT : Type := (Nat → Nat → Nat → Nat → Int32) × (Nat → Nat → Nat → Nat → Int32) × (Nat → Option Nat) × (Nat → Option (Nat × Nat)) × Nat × (Nat → Nat)
def tF (T : TT) (kd i j c : Nat) : Int32 := T.1 kd i j c
def tA (T : TT) (kd i j n : Nat) : Int32 := T.2.1 kd i j n
def tB (T : TT) (p : Nat) : Option Nat := T.2.2.1 p
def tP (T : TT) (p : Nat) : Option (Nat × Nat) := T.2.2.2.1 p
def tN (T : TT) : Nat := T.2.2.2.2.1
def tS (T : TT) (b : Nat) : Nat := T.2.2.2.2.2 b
def uF (T : TT) (kd i j c : Nat) (v : Int32) : TT := (fun kd' i' j' c' => if kd' = kd ∧ i' = i ∧ j' = j ∧ c' = c then v else tF T kd' i' j' c', tA T, tB T, tP T, tN T, tS T)
def uA (T : TT) (kd i j n : Nat) (v : Int32) : TT := (tF T, fun kd' i' j' n' => if kd' = kd ∧ i' = i ∧ j' = j ∧ n' = n then v else tA T kd' i' j' n', tB T, tP T, tN T, tS T)
def uB (T : TT) (p : Nat) (v : Option Nat) : TT := (tF T, tA T, fun p' => if p' = p then v else tB T p', tP T, tN T, tS T)
def uP (T : TT) (p : Nat) (v : Option (Nat × Nat)) : TT := (tF T, tA T, tB T, fun p' => if p' = p then v else tP T p', tN T, tS T)
theorem tF_uF (T : TT) (kd i j c : Nat) (v : Int32) (kd' i' j' c' : Nat) : tF (uF T kd i j c v) kd' i' j' c' = if kd' = kd ∧ i' = i ∧ j' = j ∧ c' = c then v else tF T kd' i' j' c' := rfl
theorem tA_uF (T : TT) (kd i j c : Nat) (v : Int32) (kd' i' j' c' : Nat) : tA (uF T kd i j c v) kd' i' j' c' = tA T kd' i' j' c' := rfl
theorem tB_uF (T : TT) (kd i j c : Nat) (v : Int32) (p : Nat) : tB (uF T kd i j c v) p = tB T p := rfl
theorem tP_uF (T : TT) (kd i j c : Nat) (v : Int32) (p : Nat) : tP (uF T kd i j c v) p = tP T p := rfl
theorem tN_uF (T : TT) (kd i j c : Nat) (v : Int32) : tN (uF T kd i j c v) = tN T := rfl
theorem tS_uF (T : TT) (kd i j c : Nat) (v : Int32) (b : Nat) : tS (uF T kd i j c v) b = tS T b := rfl
theorem tF_uA (T : TT) (kd i j c : Nat) (v : Int32) (kd' i' j' c' : Nat) : tF (uA T kd i j c v) kd' i' j' c' = tF T kd' i' j' c' := rfl
theorem tA_uA (T : TT) (kd i j c : Nat) (v : Int32) (kd' i' j' c' : Nat) : tA (uA T kd i j c v) kd' i' j' c' = if kd' = kd ∧ i' = i ∧ j' = j ∧ c' = c then v else tA T kd' i' j' c' := rfl
theorem tB_uA (T : TT) (kd i j c : Nat) (v : Int32) (p : Nat) : tB (uA T kd i j c v) p = tB T p := rfl
theorem tP_uA (T : TT) (kd i j c : Nat) (v : Int32) (p : Nat) : tP (uA T kd i j c v) p = tP T p := rfl
theorem tN_uA (T : TT) (kd i j c : Nat) (v : Int32) : tN (uA T kd i j c v) = tN T := rfl
theorem tS_uA (T : TT) (kd i j c : Nat) (v : Int32) (b : Nat) : tS (uA T kd i j c v) b = tS T b := rfl
theorem tF_uB (T : TT) (p : Nat) (v : Option Nat) (kd i j c : Nat) : tF (uB T p v) kd i j c = tF T kd i j c := rfl
theorem tA_uB (T : TT) (p : Nat) (v : Option Nat) (kd i j c : Nat) : tA (uB T p v) kd i j c = tA T kd i j c := rfl
theorem tB_uB (T : TT) (p : Nat) (v : Option Nat) (q : Nat) : tB (uB T p v) q = if q = p then v else tB T q := rfl
theorem tP_uB (T : TT) (p : Nat) (v : Option Nat) (q : Nat) : tP (uB T p v) q = tP T q := rfl
theorem tN_uB (T : TT) (p : Nat) (v : Option Nat) : tN (uB T p v) = tN T := rfl
theorem tS_uB (T : TT) (p : Nat) (v : Option Nat) (b : Nat) : tS (uB T p v) b = tS T b := rfl
theorem tF_uP (T : TT) (p : Nat) (v : Option (Nat × Nat)) (kd i j c : Nat) : tF (uP T p v) kd i j c = tF T kd i j c := rfl
theorem tA_uP (T : TT) (p : Nat) (v : Option (Nat × Nat)) (kd i j c : Nat) : tA (uP T p v) kd i j c = tA T kd i j c := rfl
theorem tB_uP (T : TT) (p : Nat) (v : Option (Nat × Nat)) (q : Nat) : tB (uP T p v) q = tB T q := rfl
theorem tP_uP (T : TT) (p : Nat) (v : Option (Nat × Nat)) (q : Nat) : tP (uP T p v) q = if q = p then v else tP T q := rfl
theorem tN_uP (T : TT) (p : Nat) (v : Option (Nat × Nat)) : tN (uP T p v) = tN T := rfl
theorem tS_uP (T : TT) (p : Nat) (v : Option (Nat × Nat)) (b : Nat) : tS (uP T p v) b = tS T b := rfl
/-- the keys that stand -/
def vk (T : TT) (kd i j : Nat) : Prop :=
  (kd < 3 ∧ i = 0 ∧ j = 0) ∨ (3 ≤ kd ∧ kd < 6 ∧ i < 3 ∧ j = 0) ∨ (6 ≤ kd ∧ kd < 12 ∧ i < tN T ∧ j = 0) ∨ (12 ≤ kd ∧ kd < 15 ∧ i < tN T ∧ j < tS T i) ∨ (kd = 15 ∧ i = 0 ∧ j = 0) ∨ (kd = 16 ∧ 2 ≤ i ∧ i < 19 ∧ j = 0) ∨ (17 ≤ kd ∧ kd < 19 ∧ i = 0 ∧ j = 0)
def kc (kd i : Nat) : Nat := match kd with
  | 0 => 4 | 1 => 8 | 2 => 9 | 3 => 2 | 4 => 7 | 5 => 6 | 6 => 0 | 7 => 1 | 8 => 6 | 9 => 1 | 10 => 6 | 11 => 10 | 12 => 3 | 13 => 1 | 14 => 6 | 15 => 5
  | 16 => if i = 14 then 7 else 6 | 17 => 11 | _ => 12
/-- how long the reference's arrays are -/
def ml (i : Nat) : Nat := match i with
  | 2 => 5 | 3 => 5 | 4 => 5 | 5 => 5 | 6 => 5 | 7 => 1280 | 8 => 2560 | 9 => 80 | 10 => 80 | 11 => 5 | 12 => 3 | 13 => 3 | 14 => 24 | 15 => 3 | 16 => 3 | 17 => 3 | _ => 8
def kn (kd i : Nat) : Nat := match kd with
  | 1 => 5 | 2 => 3 | 4 => 8 | 5 => 8 | 8 => 256 | 10 => 256 | 11 => 16 | 14 => 256 | 16 => ml i | _ => 1
/-- the references -/
def RS (ad : Nat → Nat → Nat → Nat) (T : TT) (S : HS) : Prop :=
  (gR S 128 (ad 0 0 0) = some (ad 1 0 0) ∧ gR S 129 (ad 0 0 0) = some (ad 2 0 0)) ∧
  (∀ b, b < 5 → gQ S (ad 1 0 0) b = if b < tN T then some (ad 6 b 0) else none) ∧
  (∀ p, p < 3 → gQ S (ad 2 0 0) p = some (ad 3 p 0)) ∧
  (∀ p, p < 3 → gR S 66 (ad 3 p 0) = some (ad 4 p 0) ∧ gR S 67 (ad 3 p 0) = some (ad 5 p 0) ∧ gR S 70 (ad 3 p 0) = (tB T p).map (fun b => ad 6 b 0) ∧ gR S 71 (ad 3 p 0) = (tP T p).map (fun q => ad 12 q.1 q.2)) ∧
  (∀ b, b < tN T → gR S 3 (ad 6 b 0) = some (ad 7 b 0) ∧ gR S 4 (ad 6 b 0) = some (ad 9 b 0) ∧ gR S 5 (ad 6 b 0) = some (ad 11 b 0) ∧ ∀ k, k < 16 → gQ S (ad 11 b 0) k = if k < tS T b then some (ad 12 b k) else none) ∧
  (∀ kd i j, vk T kd i j → (kd = 7 ∨ kd = 9 ∨ kd = 13) → gR S 32 (ad kd i j) = some (ad (kd + 1) i j)) ∧
  (∀ b k, b < tN T → k < tS T b → gR S 101 (ad 12 b k) = some (ad 13 b k)) ∧
  (∀ j, 2 ≤ j → j < 19 → gR S (160 + j) (ad 15 0 0) = some (ad 16 j 0)) ∧
  tN T ≤ 5 ∧ ∀ b, b < tN T → tS T b ≤ 16
def INV (ad : Nat → Nat → Nat → Nat) (T : TT) (S : HS) : Prop :=
  (∀ kd i j, vk T kd i j → ok S (ad kd i j) (kc kd i) ∧ (kd ∈ [1, 2, 4, 5, 8, 10, 11, 14, 16, 17, 18] → gN S (ad kd i j) = kn kd i) ∧ (∀ c, gI S c (ad kd i j) = tF T kd i j c) ∧ ∀ n, gA S (ad kd i j) n = tA T kd i j n) ∧
  RS ad T S ∧ ∃ tag : Nat → Nat × Nat × Nat, (∀ kd i j, vk T kd i j → tag (ad kd i j) = (kd, i, j)) ∧ (gJ S (ad 17 0 0) 0).toBitVec.toNat = ad 100 0 0 ∧ (gD S (ad 18 0 0) 0).toNat = ad 101 0 0
section IV
variable {ad : Nat → Nat → Nat → Nat} {T : TT} {S : HS}
theorem INV.ok (h : INV ad T S) {kd i j : Nat} (v : vk T kd i j) : ok S (ad kd i j) (kc kd i) := (h.1 kd i j v).1
theorem INV.n (h : INV ad T S) {kd i j : Nat} (v : vk T kd i j) (hk : kd ∈ [1, 2, 4, 5, 8, 10, 11, 14, 16, 17, 18]) : gN S (ad kd i j) = kn kd i := (h.1 kd i j v).2.1 hk
theorem INV.I (h : INV ad T S) {kd i j : Nat} (v : vk T kd i j) (c : Nat) : gI S c (ad kd i j) = tF T kd i j c := (h.1 kd i j v).2.2.1 c
theorem INV.A (h : INV ad T S) {kd i j : Nat} (v : vk T kd i j) (n : Nat) : gA S (ad kd i j) n = tA T kd i j n := (h.1 kd i j v).2.2.2 n
theorem INV.ne (h : INV ad T S) {kd i j kd' i' j' : Nat} (v : vk T kd i j) (v' : vk T kd' i' j') : ad kd' i' j' = ad kd i j ↔ kd' = kd ∧ i' = i ∧ j' = j := by
  obtain ⟨tag, ht, -⟩ := h.2.2
  constructor
  · intro e
    have e1 := congrArg tag e
    rw [ht _ _ _ v, ht _ _ _ v'] at e1
    simpa using e1
  · rintro ⟨rfl, rfl, rfl⟩
    rfl
theorem INV.sI (h : INV ad T S) {kd i j : Nat} (v : vk T kd i j) (c : Nat) (x : Int32) : INV ad (uF T kd i j c x) (sI S c (ad kd i j) x) := by
  refine ⟨fun kd' i' j' v' => ?_, h.2.1, h.2.2⟩
  obtain ⟨h1, h2, h3, h4⟩ := h.1 kd' i' j' v'
  refine ⟨h1, h2, fun c' => ?_, h4⟩
  rw [gI_sI, tF_uF, h3]
  have e := h.ne v v'
  by_cases q : kd' = kd ∧ i' = i ∧ j' = j ∧ c' = c
  · rw [if_pos q, if_pos ⟨q.2.2.2, e.mpr ⟨q.1, q.2.1, q.2.2.1⟩⟩]
  · rw [if_neg q, if_neg (fun z => q ⟨(e.mp z.2).1, (e.mp z.2).2.1, (e.mp z.2).2.2, z.1⟩)]
theorem INV.sA (h : INV ad T S) {kd i j : Nat} (v : vk T kd i j) (n : Nat) (x : Int32) : INV ad (uA T kd i j n x) (sA S (ad kd i j) n x) := by
  refine ⟨fun kd' i' j' v' => ?_, h.2.1, h.2.2⟩
  obtain ⟨h1, h2, h3, h4⟩ := h.1 kd' i' j' v'
  refine ⟨h1, h2, h3, fun n' => ?_⟩
  rw [gA_sA, tA_uA, h4]
  have e := h.ne v v'
  by_cases q : kd' = kd ∧ i' = i ∧ j' = j ∧ n' = n
  · rw [if_pos q, if_pos ⟨e.mpr ⟨q.1, q.2.1, q.2.2.1⟩, q.2.2.2⟩]
  · rw [if_neg q, if_neg (fun z => q ⟨(e.mp z.1).1, (e.mp z.1).2.1, (e.mp z.1).2.2, z.2⟩)]
theorem vk3 {p : Nat} (h : p < 3) {kd : Nat} (h1 : 3 ≤ kd) (h2 : kd < 6) : vk T kd p 0 := Or.inr (Or.inl ⟨h1, h2, h, rfl⟩)
theorem vk6 {b : Nat} (h : b < tN T) {kd : Nat} (h1 : 6 ≤ kd) (h2 : kd < 12) : vk T kd b 0 := Or.inr (Or.inr (Or.inl ⟨h1, h2, h, rfl⟩))
theorem vk12 {b k : Nat} (h : b < tN T) (hk : k < tS T b) {kd : Nat} (h1 : 12 ≤ kd) (h2 : kd < 15) : vk T kd b k := Or.inr (Or.inr (Or.inr (Or.inl ⟨h1, h2, h, hk⟩)))
theorem vk0 {kd : Nat} (h : kd < 3) : vk T kd 0 0 := Or.inl ⟨h, rfl, rfl⟩
theorem vk15 : vk T 15 0 0 := Or.inr (Or.inr (Or.inr (Or.inr (Or.inl ⟨rfl, rfl, rfl⟩))))
theorem vk16 {j : Nat} (h : 2 ≤ j) (h2 : j < 19) : vk T 16 j 0 := Or.inr (Or.inr (Or.inr (Or.inr (Or.inr (Or.inl ⟨rfl, h, h2, rfl⟩)))))
theorem vk17 {kd : Nat} (h : 17 ≤ kd) (h2 : kd < 19) : vk T kd 0 0 := Or.inr (Or.inr (Or.inr (Or.inr (Or.inr (Or.inr ⟨h, h2, rfl, rfl⟩)))))
theorem INV.sR70 (h : INV ad T S) {p : Nat} (hp : p < 3) (o : Option Nat) : INV ad (uB T p o) (sR S 70 (ad 3 p 0) (o.map (fun b => ad 6 b 0))) := by
  obtain ⟨⟨a1, a2⟩, a3, a4, a5, a6, a7, a8, a9, a10⟩ := h.2.1
  refine ⟨h.1, ⟨⟨?_, ?_⟩, a3, a4, fun p' hp' => ?_, fun b hb => ?_, fun kd i j v q => ?_, fun b k hb hk => ?_, fun j h1 h2 => ?_, a10⟩, h.2.2⟩
  · rw [gR_sR, if_neg (fun z => absurd z.1 (by decide))]; exact a1
  · rw [gR_sR, if_neg (fun z => absurd z.1 (by decide))]; exact a2
  · obtain ⟨b1, b2, b3, b4⟩ := a5 p' hp'
    refine ⟨?_, ?_, ?_, ?_⟩
    · rw [gR_sR, if_neg (fun z => absurd z.1 (by decide))]; exact b1
    · rw [gR_sR, if_neg (fun z => absurd z.1 (by decide))]; exact b2
    · rw [gR_sR, tB_uB]
      by_cases e : p' = p
      · rw [if_pos e, if_pos ⟨rfl, by rw [e]⟩]
      · rw [if_neg e, if_neg (fun z => e ((h.ne (vk3 hp (by decide) (by decide)) (vk3 hp' (by decide) (by decide))).mp z.2).2.1)]; exact b3
    · rw [gR_sR, if_neg (fun z => absurd z.1 (by decide))]; exact b4
  · obtain ⟨b1, b2, b3, b4⟩ := a6 b hb
    refine ⟨?_, ?_, ?_, b4⟩
    · rw [gR_sR, if_neg (fun z => absurd z.1 (by decide))]; exact b1
    · rw [gR_sR, if_neg (fun z => absurd z.1 (by decide))]; exact b2
    · rw [gR_sR, if_neg (fun z => absurd z.1 (by decide))]; exact b3
  · rw [gR_sR, if_neg (fun z => absurd z.1 (by decide))]; exact a7 kd i j v q
  · rw [gR_sR, if_neg (fun z => absurd z.1 (by decide))]; exact a8 b k hb hk
  · rw [gR_sR, if_neg (fun z => by omega)]; exact a9 j h1 h2
theorem INV.sR71 (h : INV ad T S) {p : Nat} (hp : p < 3) (o : Option (Nat × Nat)) : INV ad (uP T p o) (sR S 71 (ad 3 p 0) (o.map (fun q => ad 12 q.1 q.2))) := by
  obtain ⟨⟨a1, a2⟩, a3, a4, a5, a6, a7, a8, a9, a10⟩ := h.2.1
  refine ⟨h.1, ⟨⟨?_, ?_⟩, a3, a4, fun p' hp' => ?_, fun b hb => ?_, fun kd i j v q => ?_, fun b k hb hk => ?_, fun j h1 h2 => ?_, a10⟩, h.2.2⟩
  · rw [gR_sR, if_neg (fun z => absurd z.1 (by decide))]; exact a1
  · rw [gR_sR, if_neg (fun z => absurd z.1 (by decide))]; exact a2
  · obtain ⟨b1, b2, b3, b4⟩ := a5 p' hp'
    refine ⟨?_, ?_, ?_, ?_⟩
    · rw [gR_sR, if_neg (fun z => absurd z.1 (by decide))]; exact b1
    · rw [gR_sR, if_neg (fun z => absurd z.1 (by decide))]; exact b2
    · rw [gR_sR, if_neg (fun z => absurd z.1 (by decide))]; exact b3
    · rw [gR_sR, tP_uP]
      by_cases e : p' = p
      · rw [if_pos e, if_pos ⟨rfl, by rw [e]⟩]
      · rw [if_neg e, if_neg (fun z => e ((h.ne (vk3 hp (by decide) (by decide)) (vk3 hp' (by decide) (by decide))).mp z.2).2.1)]; exact b4
  · obtain ⟨b1, b2, b3, b4⟩ := a6 b hb
    refine ⟨?_, ?_, ?_, b4⟩
    · rw [gR_sR, if_neg (fun z => absurd z.1 (by decide))]; exact b1
    · rw [gR_sR, if_neg (fun z => absurd z.1 (by decide))]; exact b2
    · rw [gR_sR, if_neg (fun z => absurd z.1 (by decide))]; exact b3
  · rw [gR_sR, if_neg (fun z => absurd z.1 (by decide))]; exact a7 kd i j v q
  · rw [gR_sR, if_neg (fun z => absurd z.1 (by decide))]; exact a8 b k hb hk
  · rw [gR_sR, if_neg (fun z => by omega)]; exact a9 j h1 h2
end IV
