/-! PageKeeper.putValue and rollBack. -/
theorem aLast_e {sl n : Nat} (h : sl ≤ n) : aLast sl n = n + 1 := by
  unfold aLast
  rw [if_neg (by omega)]
def aPutP (A : aSt) (k : Nat) : aSt × Nat := if k ∈ (gC (aDown A k).1 (aDown A k).2).2.1 then aDown A k else aDnS k 40 (aDown A k).1 0 0
def aSet (B : aSt × Nat) (s k : Nat) (v : Int32) (u : Nat) : aSt := aAdd B.1 (aChg 1 B.2 s u (gN B.1 + 1) k v (gC B.1 B.2))
section PV
variable {Q : zO → zT → Prop} {S0 : zS}
theorem c25T {S : zS} {d sl s k p u : Nat} {v x5 : Int32} {B : aSt} (hl : lkC S d sl B) (hsl : sl ≤ gN B) (hw : wA B) (hn : gN B < 1144) (hp : p < 40) (hk : k < 40) (hs : s < 2000) (hu : u ≤ gN B) (hb : (gC B p).1 = false) (hr : (gC B p).2.1[lpos k (gC B p).2.1]? = some k ∨ (gC B p).2.1.length < 4) (hz : zkp S0 S)
    (hQ : ∀ (S' : zS) (d' : Nat), lkS S' d' (aSet (B, p) s k v u) → zkp S0 S' → Q (.inl (some (.inl ((nI (gN B) - x5) / nI 3)))) (S', d')) : zwp 25 (41, [some (.inr (some (0, 0))), some (.inl (nI s)), some (.inl (nI k)), some (.inl v), some (.inl (nI u)), some (.inl x5), some (.inl (nI p)), none, none], [], (S, d)) Q := by
  refine w25_41 ?_
  rw [hl.size]
  refine zwp_mono (c27 (K := 1) (p := p) (s := s) (k := k) (u := u) hl hw hn hp (by omega) (by omega) hb) (fun o t h => ?_)
  obtain ⟨S2, d2, rfl, rfl, g1, g2, f2, u65, u192, u193, u194, u195, u196, u197, u198, u199, u200, u206, u207⟩ := h
  have hx : okr B (aChg 1 p s u (gN B + 1) k v (gC B p)) := by
    refine ⟨⟨by show 1 < 8; decide, fun _ => hp, hs, ?_, ?_, by show k < 64; omega, fun z => absurd z (by show ¬ 6 ≤ 1; decide)⟩, fun _ => ⟨hb, hr⟩⟩
    · show u < gN B + 1
      omega
    · show gN B + 1 < 2000
      omega
  have hk2 : ∀ f j, f ≠ 201 → zu S2 201 (gN B + 1) 0 v f (gN B + 1) j = S2 f (gN B + 1) j := fun f j h => zu_f _ _ h
  refine w25_66 (zwp_mono (cAdd (S := zu S2 201 (gN B + 1) 0 v) (x := aChg 1 p s u (gN B + 1) k v (gC B p)) hl hw hn hx (fun f i j h => ?_) g1 g2 (by rw [zu_f _ _ (by decide)]; exact u65) ⟨by rw [hk2 _ _ (by decide)]; exact u192, by rw [hk2 _ _ (by decide)]; exact u193, by rw [hk2 _ _ (by decide)]; exact u194, by rw [hk2 _ _ (by decide)]; exact u195, by rw [hk2 _ _ (by decide)]; exact u196, by rw [hk2 _ _ (by decide)]; exact u197, ?_⟩ ⟨by rw [hk2 _ _ (by decide)]; exact u200, zu_self _ _ _ _ _, by rw [hk2 _ _ (by decide)]; exact u206, by rw [hk2 _ _ (by decide)]; exact u207⟩ (by rw [hk2 _ _ (by decide)]; exact u198)) (fun o t h => ?_))
  · have hne : ¬ (f = 201 ∧ i = gN B + 1) := fun z => h (Or.inr ⟨by omega, by omega, z.2⟩)
    by_cases e : f = 201
    · rw [zu_i _ _ (fun z => hne ⟨e, z⟩)]
      exact f2 f i j h
    · rw [zu_f _ _ e]
      exact f2 f i j h
  · rw [hk2 _ _ (by decide), u199, aLast_e hsl]
    rfl
  · obtain ⟨S3, rfl, rfl, k3, z3⟩ := h
    exact w25_80 (hQ S3 d2 ⟨sl, by show sl ≤ gN B + 1; omega, k3⟩ (hz.tr z3))
end PV
theorem nI_subn {a b : Nat} (h : b ≤ a) : nI a - nI b = nI (a - b) := by
  have h1 : nI (a - b) + nI b = nI a := by rw [nI_add, Nat.sub_add_cancel h]
  rw [← h1, Int32.add_sub_cancel]
theorem nI_div {a b : Nat} (ha : a < 2 ^ 31) (hb : b < 2 ^ 31) : nI a / nI b = nI (a / b) := by
  apply Int32.toInt_inj.mp
  have hd : a / b ≤ a := Nat.div_le_self a b
  rw [Int32.toInt_div, nI_toInt ha, nI_toInt hb, nI_toInt (by omega)]
  have : ((a : Int).tdiv (b : Int)) = ((a / b : Nat) : Int) := by
    rw [Int.ofNat_tdiv]
  rw [this, Int.bmod_def]
  generalize a / b = c at hd ⊢
  omega
-- the answer: how many splits that took
def aPut (A : aSt) (s k : Nat) (v : Int32) (u : Nat) : aSt × Nat := (aSet (aPutP A k) s k v u, (gN (aPutP A k).1 - gN A) / 3)
-- what putting needs
def okPB (A : aSt) (B : aSt × Nat) (k : Nat) : Prop := (gC (aDown A k).1 (aDown A k).2).1 = false ∧ (k ∉ (gC (aDown A k).1 (aDown A k).2).2.1 → okS k 40 (aDown A k).1 0 0) ∧ wA B.1 ∧ B.2 < 40 ∧ (gC B.1 B.2).1 = false ∧ ((gC B.1 B.2).2.1[lpos k (gC B.1 B.2).2.1]? = some k ∨ (gC B.1 B.2).2.1.length < 4) ∧ gN B.1 < 1144 ∧ gN A ≤ gN B.1
def okP (A : aSt) (k : Nat) : Prop := okPB A (aPutP A k) k
theorem c25B {S : zS} {d s k u : Nat} {v : Int32} {A : aSt} {B D : aSt × Nat} (hD : aDown A k = D) (hP : B = if k ∈ (gC D.1 D.2).2.1 then D else aDnS k 40 D.1 0 0) (hl : lkS S d A) (hw : wA A) (hki : kids A) (hk : k < 40) (hs : s < 2000) (hu : u ≤ gN A) (hok : okPB A B k) :
    zwp 25 (0, zent 25 [.inr (some (0, 0)), .inl (nI s), .inl (nI k), .inl v, .inl (nI u)], [], (S, d)) (fun o t => ∃ S' d', o = .inl (some (.inl (nI ((gN B.1 - gN A) / 3)))) ∧ t = (S', d') ∧ lkS S' d' (aSet B s k v u) ∧ zkp S S') := by
  obtain ⟨sl, hsl, hlC⟩ := hl
  unfold okPB at hok
  obtain ⟨w1, w2, w3, w4, w5⟩ := down_w (key := k) 39 (aFix A 0) 0 (wA_fix hw (by decide)) (kids_fix hki) (by decide)
  rw [log_fix.2] at w5
  change wA (aDown A k).1 at w1
  change (aDown A k).2 < 40 at w3
  change gN (aDown A k).1 = gN A at w5
  have hn := hw.n
  refine w25_0 ?_
  rw [hlC.size]
  refine zwp_mono (c28 (key := k) hlC hw hki) (fun o t h => ?_)
  rw [hD] at h w1 w3 w5 hok
  obtain ⟨o1, o2, o3, o4, o5, o6, o7, o8⟩ := hok
  obtain ⟨S1, rfl, rfl, k1, z1⟩ := h
  have fin : ∀ (S' : zS) (d' : Nat), lkS S' d' (aSet (B.1, B.2) s k v u) → zkp S S' → (fun o t => ∃ S' d', o = .inl (some (.inl (nI ((gN B.1 - gN A) / 3)))) ∧ t = (S', d') ∧ lkS S' d' (aSet B s k v u) ∧ zkp S S') (Sum.inl (some (Sum.inl ((nI (gN B.1) - nI (gN A)) / nI 3))) : zO) (S', d') := by
    intro S' d' h1 h2
    refine ⟨S', d', ?_, rfl, h1, h2⟩
    rw [nI_subn o8, nI_div (by omega) (by decide)]
  refine w25_14 ⟨_, rfl, w3, zwp_mono (c68 (k1.con w3) (w1.con _) (by omega)) (fun o t h => ?_)⟩
  obtain ⟨rfl, rfl⟩ := h
  have hwl := (w1.con D.2).1
  refine w25_30 ⟨fun hm => ?_, fun hm => ?_⟩
  · rw [zix_m1 (by omega)] at hm
    rw [if_neg hm] at hP
    have hN2 : sl ≤ gN D.1 := by omega
    refine zwp_mono (c29 (key := k) ⟨sl, hN2, k1⟩ w1 (o2 hm)) (fun o t h => ?_)
    rw [← hP] at h
    obtain ⟨S2, d2, rfl, rfl, ⟨sl2, hsl2, k2⟩, z2⟩ := h
    exact w25_39 (c25T k2 hsl2 o3 o7 o4 hk hs (by omega) o5 o6 (z1.tr z2) fin)
  · rw [zix_m1 (by omega), Decidable.not_not] at hm
    rw [if_pos hm] at hP
    subst hP
    exact c25T k1 (by omega) o3 o7 o4 hk hs (by omega) o5 o6 z1 fin
theorem c25 {S : zS} {d s k u : Nat} {v : Int32} {A : aSt} (hl : lkS S d A) (hw : wA A) (hki : kids A) (hk : k < 40) (hs : s < 2000) (hu : u ≤ gN A) (hok : okP A k) :
    zwp 25 (0, zent 25 [.inr (some (0, 0)), .inl (nI s), .inl (nI k), .inl v, .inl (nI u)], [], (S, d)) (fun o t => ∃ S' d', o = .inl (some (.inl (nI (aPut A s k v u).2))) ∧ t = (S', d') ∧ lkS S' d' (aPut A s k v u).1 ∧ zkp S S') :=
  c25B (D := aDown A k) (B := aPutP A k) rfl rfl hl hw hki hk hs hu hok
