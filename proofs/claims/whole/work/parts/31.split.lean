/-! Splits, in the class. -/
def cHalf (c : aCon) (a : Nat) : aCon := (c.1, (c.2.1.drop a).take 2, (c.2.2.drop a).take (if c.1 = true then 1 else 2))
abbrev pbr (n : Nat) : Nat → Nat → Prop := fun f i => 200 ≤ f ∧ f < 256 ∧ i = n
theorem half_hs {c : aCon} {a : Nat} (h4 : c.2.1.length = 4) (ha : a ≤ 2) : ∃ h0 h1, (cHalf c a).2.1 = [h0, h1] ∧ c.2.1[a]? = some h0 ∧ c.2.1[a + 1]? = some h1 := by
  obtain ⟨h0, e0⟩ := lget (l := c.2.1) (i := a) (by omega)
  obtain ⟨h1, e1⟩ := lget (l := c.2.1) (i := a + 1) (by omega)
  refine ⟨h0, h1, ?_, e0, e1⟩
  apply List.ext_getElem?
  intro j
  show ((c.2.1.drop a).take 2)[j]? = _
  match j with
  | 0 =>
    rw [List.getElem?_take_of_lt (by decide), List.getElem?_drop]
    exact e0
  | 1 =>
    rw [List.getElem?_take_of_lt (by decide), List.getElem?_drop]
    exact e1
  | j + 2 =>
    rw [List.getElem?_eq_none (by rw [List.length_take]; omega), List.getElem?_eq_none (by simp)]
theorem half_w {c : aCon} {a : Nat} (hw : wcon c) (h4 : c.2.1.length = 4) (ha : a = 0 ∨ a = 2) : wcon (cHalf c a) ∧ (cHalf c a).2.1.length = 2 := by
  obtain ⟨w1, w2, w3, w4⟩ := hw
  have hl : ((c.2.1.drop a).take 2).length = 2 := by
    rw [List.length_take, List.length_drop]
    omega
  refine ⟨⟨?_, fun h hh => w2 h (List.mem_of_mem_drop (List.mem_of_mem_take hh)), ?_, fun _ => ?_⟩, hl⟩
  · show ((c.2.1.drop a).take 2).length ≤ 4
    omega
  · show ((c.2.2.drop a).take (if c.1 = true then 1 else 2)).length = ((c.2.1.drop a).take 2).length - (if c.1 = true then 1 else 0)
    rw [hl, List.length_take, List.length_drop]
    rw [h4] at w3
    cases hb : c.1 with
    | true =>
      rw [hb] at w3
      simp at w3 ⊢
      omega
    | false =>
      rw [hb] at w3
      simp at w3 ⊢
      omega
  · show 1 ≤ ((c.2.1.drop a).take 2).length
    omega
-- LogRow.bringHalf
theorem c43 {S : zS} {d n f a : Nat} {c : aCon} (hl : lcon S f c) (hw : wcon c) (h4 : c.2.1.length = 4) (ha : a = 0 ∨ a = 2) : zwp 43 (0, zent 43 [.inr (some (3, n)), .inr (some (12, f)), .inl (nI a)], [], (S, d)) (fun o t => ∃ S', o = .inl none ∧ t = (S', d) ∧ zfr S S' (pbr n) ∧ lbr S' n (cHalf c a)) := by
  obtain ⟨h0, h1, e1, e2, e3⟩ := half_hs (a := a) h4 (by omega)
  have hts : c.2.2.length = 4 - (if c.1 = true then 1 else 0) := by rw [← h4]; exact hw.2.2.1
  obtain ⟨t0, et⟩ := lget (l := c.2.2) (i := a) (by rw [hts]; split <;> omega)
  refine w43_0 ⟨fun z => ?_, fun _ => ⟨fun _ => ⟨by rw [hl.1]; exact b2i_01 _, a, rfl, by omega, a, rfl, by omega, a + 1, nI_add a 1, by omega, a + 1, nI_add a 1, by omega, ?_⟩, fun z => ?_⟩⟩
  · rw [← nI_0, nI_lt_iff (by omega) (by omega)] at z
    omega
  · refine ⟨_, rfl, rfl, fun g i j hnp => ?_, ?_, h0, h1, t0, e1, ?_, ?_, ?_, ?_, ?_, fun t1 ht1 => ?_⟩
    · have hq : ∀ g', 200 ≤ g' → g' < 256 → ¬ (g = g' ∧ i = n ∧ j = 0) := fun g' z1 z2 z => hnp ⟨by omega, by omega, z.2.1⟩
      unfold zu
      rw [if_neg (hq 203 (by decide) (by decide)), if_neg (hq 202 (by decide) (by decide)), if_neg (hq 201 (by decide) (by decide)), if_neg (hq 200 (by decide) (by decide)), if_neg (hq 204 (by decide) (by decide))]
    · rw [zu_f _ _ (by decide), zu_f _ _ (by decide), zu_f _ _ (by decide), zu_f _ _ (by decide), zu_self]
      exact hl.1
    · show ((c.2.2.drop a).take (if c.1 = true then 1 else 2))[0]? = some t0
      rw [List.getElem?_take_of_lt (by split <;> decide), List.getElem?_drop]
      exact et
    · show ((c.2.2.drop a).take (if c.1 = true then 1 else 2)).length ≤ 2
      rw [List.length_take]
      split <;> omega
    · rw [zu_f _ _ (by decide), zu_f _ _ (by decide), zu_f _ _ (by decide), zu_self]
      exact hl.2.2.1 a h0 e2
    · rw [zu_f _ _ (by decide), zu_f _ _ (by decide), zu_self]
      exact hl.2.2.2 a t0 et
    · rw [zu_f _ _ (by decide), zu_self]
      exact hl.2.2.1 (a + 1) h1 e3
    · rw [zu_self]
      refine hl.2.2.2 (a + 1) t1 ?_
      have ht : ((c.2.2.drop a).take (if c.1 = true then 1 else 2))[1]? = some t1 := ht1
      have hlen := (List.getElem?_eq_some_iff.mp ht).1
      rw [List.length_take] at hlen
      rw [List.getElem?_take_of_lt (by omega), List.getElem?_drop] at ht
      exact ht
  · rw [nI_le_iff (by omega) (by omega)] at z
    omega
theorem c44 {S : zS} {d n a b : Nat} {x : Int32} : zwp 44 (0, zent 44 [.inr (some (3, n)), .inl (nI a), .inl x, .inl (nI b)], [], (S, d)) (fun o t => ∃ S', o = .inl none ∧ t = (S', d) ∧ zfr S S' (pbr n) ∧ lbr S' n (true, [a, b], [x])) := by
  refine w44_0 ⟨_, rfl, rfl, fun g i j hnp => ?_, ?_, a, b, x, rfl, rfl, by simp, ?_, ?_, ?_, fun t1 ht1 => by simp at ht1⟩
  · have hq : ∀ g', 200 ≤ g' → g' < 256 → ¬ (g = g' ∧ i = n ∧ j = 0) := fun g' z1 z2 z => hnp ⟨by omega, by omega, z.2.1⟩
    unfold zu
    rw [if_neg (hq 202 (by decide) (by decide)), if_neg (hq 201 (by decide) (by decide)), if_neg (hq 200 (by decide) (by decide)), if_neg (hq 204 (by decide) (by decide))]
  · rw [zu_f _ _ (by decide), zu_f _ _ (by decide), zu_f _ _ (by decide), zu_self]
    rfl
  · rw [zu_f _ _ (by decide), zu_f _ _ (by decide), zu_self]
  · rw [zu_f _ _ (by decide), zu_self]
  · rw [zu_self]
theorem c45 {S : zS} {d n a b x : Nat} : zwp 45 (0, zent 45 [.inr (some (3, n)), .inl (nI x), .inl (nI a), .inl (nI b)], [], (S, d)) (fun o t => ∃ S', o = .inl none ∧ t = (S', d) ∧ zfr S S' (pbr n) ∧ S' 200 n 0 = nI a ∧ S' 201 n 0 = nI x ∧ S' 205 n 0 = nI b) := by
  refine w45_0 ⟨_, rfl, rfl, fun g i j hnp => ?_, ?_, ?_, ?_⟩
  · have hq : ∀ g', 200 ≤ g' → g' < 256 → ¬ (g = g' ∧ i = n ∧ j = 0) := fun g' z1 z2 z => hnp ⟨by omega, by omega, z.2.1⟩
    unfold zu
    rw [if_neg (hq 205 (by decide) (by decide)), if_neg (hq 201 (by decide) (by decide)), if_neg (hq 200 (by decide) (by decide))]
  · rw [zu_f _ _ (by decide), zu_f _ _ (by decide), zu_self]
  · rw [zu_f _ _ (by decide), zu_self]
  · rw [zu_self]
-- Log.startSplit
theorem c40 {S : zS} {d sl : Nat} {A : aSt} (hl : lkC S d sl A) : zwp 40 (0, zent 40 [.inr (some (1, 0))], [], (S, d)) (fun o t => ∃ S', o = .inl none ∧ t = (S', d) ∧ lkC S' d (gN A + 3) A ∧ zkp S S') := by
  obtain ⟨lg, n, fo, im, dm, bk, pl, r, w, e, q⟩ := A
  obtain ⟨⟨a1, a2, a3, a4, a5, a6⟩, l2, l3, l4, l5, l6, l7, l8⟩ := hl
  have hk : ∀ f i j, f ≠ 67 → zu S 67 0 0 (S 65 0 0 + nI 3) f i j = S f i j := fun f i j h => zu_f _ _ h
  refine w40_0 ⟨_, rfl, rfl, ⟨⟨by rw [hk 65 _ _ (by decide)]; exact a1, by rw [hk 66 _ _ (by decide)]; exact a2, ?_, a4, a5, fun m h1 h2 => ?_⟩, by rw [hk 4 _ _ (by decide)]; exact l2, fun p hp => lpg_congr (fun f j hf => hk f p j (by omega)) (l3 p hp), lpool_congr (fun f j hf => hk f 0 j (by omega)) l4, by rw [hk 8 _ _ (by decide)]; exact l5, by rw [hk 9 _ _ (by decide)]; exact l6, by rw [hk 10 _ _ (by decide)]; exact l7, by rw [hk 11 _ _ (by decide)]; exact l8⟩, fun f i j hf => hk f i j (by omega)⟩
  · rw [zu_self, a1, nI_add]
    rfl
  · obtain ⟨b1, b2, b3⟩ := a6 m h1 h2
    exact ⟨lrH_congr (fun f j z1 z2 _ => hk f m j (by omega)) b1, by rw [hk 198 _ _ (by decide)]; exact b2, lrB_congr (fun f j z1 z2 => hk f m j (by omega)) b3⟩
-- the head of a row of a page, behind what it brings
theorem rowH {S0 S1 S2 : zS} {n pr K p s L : Nat} {x : aRec} (h6 : K < 6) (e1 : rK x = K) (e2 : rP x = p) (e3 : rW x = s) (e4 : rU x = 0) (e5 : rL x = L) (f1 : zfr S0 S1 (prow n)) (f2 : zfr S1 S2 (pbr n)) (u65 : S1 65 0 0 = nI n) (u192 : S1 192 n 0 = nI n) (u193 : S1 193 n 0 = nI K) (u194 : S1 194 n 0 = nI p) (u195 : S1 195 n 0 = nI pr) (u196 : S1 196 n 0 = nI s) (u197 : S1 197 n 0 = nI 0) (u198 : S1 198 n 0 = nI 0) (u199 : S1 199 n 0 = nI L) :
    zfr S0 S2 (prow n) ∧ S2 65 0 0 = nI n ∧ lrH S2 n pr x ∧ S2 198 n 0 = nI 0 := by
  have hk : ∀ f i j, f < 200 → S2 f i j = S1 f i j := fun f i j h => f2 f i j (fun z => by omega)
  refine ⟨f1.tr f2 (fun f i z => z.elim id (fun z => Or.inr ⟨by omega, z.2⟩)), by rw [hk 65 _ _ (by decide)]; exact u65, ⟨by rw [hk 192 _ _ (by decide)]; exact u192, by rw [hk 193 _ _ (by decide), e1]; exact u193, by rw [hk 194 _ _ (by decide), e1, if_pos h6, e2]; exact u194, by rw [hk 195 _ _ (by decide), e1, if_pos h6]; exact u195, by rw [hk 196 _ _ (by decide), e3]; exact u196, by rw [hk 197 _ _ (by decide), e4]; exact u197, by rw [hk 199 _ _ (by decide), e5]; exact u199⟩, by rw [hk 198 _ _ (by decide)]; exact u198⟩
def aFmt (p L : Nat) (c : aCon) : aRec := (3, p, 0, 0, L, 0, 0, false, 0, c)
def aCutR (p L : Nat) : aRec := (4, p, 0, 0, L, 0, 0, false, 0, (false, [], []))
def aLnk (p L sep child behind : Nat) : aRec := (5, p, 0, 0, L, sep, 0, false, 0, (true, [child, behind], []))
theorem okr_fmt {A : aSt} {p L : Nat} {c : aCon} (hp : p < 40) (hL : L < 2000) (hc : wcon c) (h2 : c.2.1.length = 2) : okr A (aFmt p L c) :=
  ⟨⟨by show 3 < 8; decide, fun _ => hp, by show 0 < 2000; decide, by show 0 < gN A + 1; omega, hL, by show 0 < 64; decide, fun z => absurd z (by show ¬ 6 ≤ 3; decide)⟩, fun _ => ⟨hc, h2⟩⟩
theorem lkC.lat {S : zS} {d sl p : Nat} {A : aSt} (hl : lkC S d sl A) (hp : p < 40) : S 705 p 0 = nI (lat (gL A) p (gN A)) := by
  obtain ⟨lg, n, fo, im, dm, bk, pl, r, w, e, q⟩ := A
  exact (hl.2.2.1 p hp).1
theorem lkC.pgs {S : zS} {d sl : Nat} {A : aSt} (hl : lkC S d sl A) : S 4 0 0 = nI (pgs (gL A) (gN A)) := by
  obtain ⟨lg, n, fo, im, dm, bk, pl, r, w, e, q⟩ := A
  exact hl.2.1
theorem lkC.rows {S : zS} {d sl : Nat} {A : aSt} (hl : lkC S d sl A) : S 67 0 0 = nI sl ∧ gN A ≤ d ∧ d < 1145 := by
  obtain ⟨lg, n, fo, im, dm, bk, pl, r, w, e, q⟩ := A
  exact ⟨hl.1.2.2.1, hl.1.2.2.2.1, hl.1.2.2.2.2.1⟩
-- a page that has no record yet
theorem lat_new {lg : Nat → aRec} {p : Nat} : ∀ {n : Nat}, pgs lg n ≤ p → lat lg p n = 0
  | 0, _ => rfl
  | n + 1, h => by
    unfold pgs at h
    unfold lat
    by_cases h6 : rK (lg (n + 1)) < 6
    · rw [if_pos h6] at h
      have := Nat.max_le.mp h
      rw [if_neg (by
        intro z
        have := of_decide_eq_true z
        omega), lat_new this.1]
    · rw [if_neg h6] at h
      rw [if_neg (by
        intro z
        have := of_decide_eq_true z
        omega), lat_new h]
