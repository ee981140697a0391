/-! The reference: a page's contents by replay of the log. -/
def mlook (S : zS) (c : aCon) : Prop := S 1048 0 0 = b2i c.1 ∧ S 1049 0 0 = nI c.2.1.length ∧ (∀ i h, c.2.1[i]? = some h → S 1984 0 i = nI h) ∧ ∀ i v, c.2.2[i]? = some v → S 2048 0 i = v
abbrev plk : Nat → Nat → Prop := fun f _ => f = 1048 ∨ f = 1049 ∨ f = 1984 ∨ f = 2048
theorem nI_mul (a b : Nat) : nI a * nI b = nI (a * b) := (Int32.ofNat_mul a b).symm
theorem nI_sub2 {a b : Nat} (h : b ≤ a) : nI a - nI b = nI (a - b) := by
  have h1 : nI (a - b) + nI b = nI a := by rw [nI_add, Nat.sub_add_cancel h]
  rw [← h1, Int32.add_sub_cancel]
section RL
variable {S : zS} {d n : Nat}
theorem r80F {f : Nat} {c : aCon} (hk : S 1088 0 n = nI 3) (hv : S 1344 0 n = nI f) (hf : f < 100) (hm : mfm S f c) (hw : wcon c) (hn : n < 1300) : zwp 80 (0, zent 80 [.inr (some (16, 0)), .inl (nI n)], [], (S, d)) (fun o t => ∃ S', o = .inl none ∧ t = (S', d) ∧ zfr S S' plk ∧ mlook S' c) := by
  have hlen := hw.1
  have hlt := hw.2.2.1
  have key : ∀ (m k : Nat) (S1 : zS), k + m = 4 → zfr S S1 plk → S1 1048 0 0 = b2i c.1 → S1 1049 0 0 = nI c.2.1.length → (∀ i, i < k → S1 1984 0 i = S 1664 0 (10 * f + 2 + i) ∧ S1 2048 0 i = S 1664 0 (10 * f + 6 + i)) → zwp 80 (53, [some (.inr (some (16, 0))), some (.inl (nI n)), some (.inl (nI (10 * f))), some (.inl (nI k))], [], (S1, d)) (fun o t => ∃ S', o = .inl none ∧ t = (S', d) ∧ zfr S S' plk ∧ mlook S' c) := by
    intro m
    induction m with
    | zero =>
      intro k S1 hk1 hfr h1 h2 h3
      have hk4 : k = 4 := by omega
      subst hk4
      refine w80_53 ⟨fun _ => w80_243 ⟨S1, rfl, rfl, hfr, h1, h2, fun i h hi => ?_, fun i v hi => ?_⟩, fun hn => absurd (Int32.le_refl _) hn⟩
      · have := (List.getElem?_eq_some_iff.mp hi).1
        rw [(h3 i (by omega)).1]
        exact hm.2.2.1 i h hi
      · have := (List.getElem?_eq_some_iff.mp hi).1
        have : i < 4 := by
          have : c.2.2.length ≤ c.2.1.length := by rw [hlt]; exact Nat.sub_le _ _
          omega
        rw [(h3 i this).2]
        exact hm.2.2.2 i v hi
    | succ m ih =>
      intro k S1 hk1 hfr h1 h2 h3
      have hfr' : ∀ f i j, ¬ (f = 1048 ∨ f = 1049 ∨ f = 1984 ∨ f = 2048) → S1 f i j = S f i j := fun f i j h => hfr f i j h
      refine w80_53 ⟨fun hn => ?_, fun _ => ⟨10 * f + 2 + k, by rw [nI_add, nI_add], by omega, k, rfl, by omega, 10 * f + 6 + k, by rw [nI_add, nI_add], by omega, k, rfl, by omega, ?_⟩⟩
      · rw [nI_le_iff (by decide) (by omega)] at hn
        omega
      rw [nI_add, hfr' 1664 _ _ (by decide), hfr' 1664 _ _ (by decide)]
      refine ih (k + 1) _ (by omega) (fun f i j h => ?_) ?_ ?_ (fun i hi => ?_)
      · rw [zu_f _ _ (fun z => h (by omega)), zu_f _ _ (fun z => h (by omega))]
        exact hfr f i j h
      · rw [zu_f _ _ (by decide), zu_f _ _ (by decide)]
        exact h1
      · rw [zu_f _ _ (by decide), zu_f _ _ (by decide)]
        exact h2
      · by_cases e : i = k
        · subst e
          exact ⟨by rw [zu_f _ _ (by decide), zu_self], zu_self _ _ _ _ _⟩
        · obtain ⟨g1, g2⟩ := h3 i (by omega)
          exact ⟨by rw [zu_f _ _ (by decide), zu_j _ _ e]; exact g1, by rw [zu_j _ _ e, zu_f _ _ (by decide)]; exact g2⟩
  have st : ∀ y0 : Int32, y0 = b2i c.1 → zwp 80 (36, [some (.inr (some (16, 0))), some (.inl (nI n)), some (.inl (nI (10 * f))), none], [.inl y0, .inr (some (16, 0))], (S, d)) (fun o t => ∃ S', o = .inl none ∧ t = (S', d) ∧ zfr S S' plk ∧ mlook S' c) := by
    intro y0 hy
    refine w80_36 ⟨by rw [hy]; exact b2i_01 _, 10 * f + 1, nI_add _ _, by omega, ?_⟩
    refine key 4 0 _ (by omega) (fun f i j h => ?_) ?_ ?_ (fun i hi => by omega)
    · rw [zu_f _ _ (fun z => h (by omega)), zu_f _ _ (fun z => h (by omega))]
    · rw [zu_f _ _ (by decide), zu_self, hy]
    · rw [zu_self, hm.2.1]
  refine w80_0 ⟨n, rfl, hn, fun _ => ⟨n, rfl, hn, 10 * f, by rw [hv, nI_mul], by omega, fun h1 => ?_, fun h1 => ?_⟩, fun h => absurd hk h⟩
  · rw [hm.1] at h1
    rw [hv, nI_mul]
    exact st _ h1.symm
  · rw [hm.1] at h1
    rw [hv, nI_mul]
    refine st _ ?_
    cases hb : c.1 with
    | true => rw [hb] at h1; exact absurd rfl h1
    | false => rfl
theorem r80C {c : aCon} (hk : S 1088 0 n = nI 4) (hl : mlook S c) (h4 : c.2.1.length = 4) (hn : n < 1300) : zwp 80 (0, zent 80 [.inr (some (16, 0)), .inl (nI n)], [], (S, d)) (fun o t => ∃ S', o = .inl none ∧ t = (S', d) ∧ zfr S S' plk ∧ mlook S' (cCut c)) := by
  refine w80_0 ⟨n, rfl, hn, fun h => absurd (hk.symm.trans h) (by decide), fun _ => ⟨n, rfl, hn, fun _ => w80_243 ⟨_, rfl, rfl, fun f i j h => zu_f _ _ (fun z => h (by omega)), ?_⟩, fun h => absurd hk h⟩⟩
  obtain ⟨l1, l2, l3, l4⟩ := hl
  refine ⟨?_, ?_, fun i h hi => ?_, fun i v hi => ?_⟩
  · rw [zu_f _ _ (by decide)]
    exact l1
  · rw [zu_self]
    show nI 2 = nI (c.2.1.take 2).length
    rw [List.length_take, h4]
    rfl
  · rw [zu_f _ _ (by decide)]
    refine l3 i h ?_
    have hi' : (c.2.1.take 2)[i]? = some h := hi
    rw [List.getElem?_take] at hi'
    by_cases hlt : i < 2
    · rw [if_pos hlt] at hi'
      exact hi'
    · rw [if_neg hlt] at hi'
      cases hi'
  · rw [zu_f _ _ (by decide)]
    refine l4 i v ?_
    have hi' : (c.2.2.take (if c.1 = true then 1 else 2))[i]? = some v := hi
    rw [List.getElem?_take] at hi'
    by_cases hlt : i < (if c.1 = true then 1 else 2)
    · rw [if_pos hlt] at hi'
      exact hi'
    · rw [if_neg hlt] at hi'
      cases hi'
-- LINK
theorem r80L {c : aCon} {sep child behind : Nat} (hk : S 1088 0 n = nI 5) (hY : S 1280 0 n = nI sep) (hV : S 1344 0 n = nI child) (hB : S 1472 0 n = nI behind) (hl : mlook S c) (hw : wcon c) (hb : c.1 = true) (hbe : behind < 64) (hm : behind ∈ c.2.1) (h4 : c.2.1.length < 4) (hn : n < 1300) : zwp 80 (0, zent 80 [.inr (some (16, 0)), .inl (nI n)], [], (S, d)) (fun o t => ∃ S', o = .inl none ∧ t = (S', d) ∧ zfr S S' plk ∧ mlook S' (cLink sep child behind c)) := by
  obtain ⟨l1, l2, l3, l4⟩ := hl
  have hi0 := (lidx_mem hm).1
  have hat := (lidx_mem hm).2
  have htl : c.2.2.length = c.2.1.length - 1 := by
    have := hw.2.2.1
    rw [hb, if_pos rfl] at this
    exact this
  -- the shift
  have sh : ∀ (k : Nat) (S1 : zS), lidx behind c.2.1 + 1 ≤ k → k ≤ c.2.1.length → zfr S S1 plk → S1 1048 0 0 = S 1048 0 0 → S1 1049 0 0 = S 1049 0 0 → (∀ j, S1 1984 0 j = if k < j ∧ j ≤ c.2.1.length then S 1984 0 (j - 1) else S 1984 0 j) → (∀ j, S1 2048 0 j = if k ≤ j ∧ j < c.2.1.length then S 2048 0 (j - 1) else S 2048 0 j) → zwp 80 (156, [some (.inr (some (16, 0))), some (.inl (nI n)), some (.inl (nI (lidx behind c.2.1))), some (.inl (nI k))], [], (S1, d)) (fun o t => ∃ S', o = .inl none ∧ t = (S', d) ∧ zfr S S' plk ∧ mlook S' (cLink sep child behind c)) := by
    intro k
    induction k with
    | zero =>
      intro S1 hk1
      omega
    | succ k ih =>
      intro S1 hk1 hk2 hfr e1 e2 e3 e4
      have hfr' : ∀ f i j, ¬ (f = 1048 ∨ f = 1049 ∨ f = 1984 ∨ f = 2048) → S1 f i j = S f i j := fun f i j h => hfr f i j h
      by_cases hend : k = lidx behind c.2.1
      · refine w80_156 ⟨fun _ => ⟨n, rfl, hn, lidx behind c.2.1 + 1, nI_add _ _, by omega, n, rfl, hn, lidx behind c.2.1, rfl, by omega, w80_243 ⟨_, rfl, rfl, fun f i j h => ?_, ?_, ?_, fun j x hj => ?_, fun j v hj => ?_⟩⟩, fun hg => ?_⟩
        · rw [zu_f _ _ (fun z => h (by omega)), zu_f _ _ (fun z => h (by omega)), zu_f _ _ (fun z => h (by omega))]
          exact hfr f i j h
        · rw [zu_f _ _ (by decide), zu_f _ _ (by decide), zu_f _ _ (by decide), e1]
          exact l1
        · rw [zu_self, e2, l2, nI_add]
          show _ = nI (lins _ _ _).length
          rw [lins_len]
        · have hj' : (lins (lidx behind c.2.1 + 1) child c.2.1)[j]? = some x := hj
          rw [lins_get (by omega)] at hj'
          rw [zu_f _ _ (by decide), zu_f _ _ (by decide)]
          by_cases j1 : j = lidx behind c.2.1 + 1
          · rw [if_neg (by omega), if_pos j1] at hj'
            rw [j1, zu_self, hfr' _ _ _ (by decide), hV, Option.some.inj hj']
          · rw [zu_j _ _ j1, e3 j]
            by_cases j2 : j < lidx behind c.2.1 + 1
            · rw [if_pos j2] at hj'
              rw [if_neg (by omega)]
              exact l3 j x hj'
            · rw [if_neg j2, if_neg j1] at hj'
              have := (List.getElem?_eq_some_iff.mp hj').1
              rw [if_pos (by omega)]
              exact l3 (j - 1) x hj'
        · have hj' : (lins (lidx behind c.2.1) (nI sep) c.2.2)[j]? = some v := hj
          rw [lins_get (by omega)] at hj'
          rw [zu_f _ _ (by decide)]
          by_cases j1 : j = lidx behind c.2.1
          · rw [if_neg (by omega), if_pos j1] at hj'
            rw [j1, zu_self, hfr' _ _ _ (by decide), hY, Option.some.inj hj']
          · rw [zu_j _ _ j1, zu_f _ _ (by decide), e4 j]
            by_cases j2 : j < lidx behind c.2.1
            · rw [if_pos j2] at hj'
              rw [if_neg (by omega)]
              exact l4 j v hj'
            · rw [if_neg j2, if_neg j1] at hj'
              have := (List.getElem?_eq_some_iff.mp hj').1
              rw [if_pos (by omega)]
              exact l4 (j - 1) v hj'
        · rw [nI_add, nI_le_iff (by omega) (by omega)] at hg
          omega
      · refine w80_156 ⟨fun hg => ?_, fun _ => ⟨k, by rw [nI_sub2 (by omega)]; rfl, by omega, k + 1, rfl, by omega, k - 1, by rw [nI_sub2 (by omega)]; congr 1, by omega, k, by rw [nI_sub2 (by omega)]; rfl, by omega, ?_⟩⟩
        · rw [nI_add, nI_le_iff (by omega) (by omega)] at hg
          omega
        rw [nI_dec' (by omega)]
        refine ih _ (by omega) (by omega) (fun f i j h => ?_) ?_ ?_ (fun j => ?_) (fun j => ?_)
        · rw [zu_f _ _ (fun z => h (by omega)), zu_f _ _ (fun z => h (by omega))]
          exact hfr f i j h
        · rw [zu_f _ _ (by decide), zu_f _ _ (by decide)]
          exact e1
        · rw [zu_f _ _ (by decide), zu_f _ _ (by decide)]
          exact e2
        · rw [zu_f _ _ (by decide)]
          by_cases j1 : j = k + 1
          · rw [j1, zu_self, e3 k, if_neg (by omega), if_pos (by omega)]
            rfl
          · rw [zu_j _ _ j1, e3 j]
            by_cases j2 : k + 1 < j ∧ j ≤ c.2.1.length
            · rw [if_pos j2, if_pos (by omega)]
            · rw [if_neg j2, if_neg (by omega)]
        · by_cases j1 : j = k
          · rw [j1, zu_self, e4 (k - 1), if_neg (by omega), if_pos (by omega)]
          · rw [zu_j _ _ j1, zu_f _ _ (by decide), e4 j]
            by_cases j2 : k + 1 ≤ j ∧ j < c.2.1.length
            · rw [if_pos j2, if_pos (by omega)]
            · rw [if_neg j2, if_neg (by omega)]
  -- the child behind which it comes
  have fd : ∀ (m i : Nat), i + m = lidx behind c.2.1 → (∀ j, j < i → c.2.1[j]? ≠ some behind) → zwp 80 (130, [some (.inr (some (16, 0))), some (.inl (nI n)), some (.inl (nI i)), none], [], (S, d)) (fun o t => ∃ S', o = .inl none ∧ t = (S', d) ∧ zfr S S' plk ∧ mlook S' (cLink sep child behind c)) := by
    intro m
    induction m with
    | zero =>
      intro i hi hj
      have hi : i = lidx behind c.2.1 := by omega
      subst hi
      refine w80_130 ⟨lidx behind c.2.1, rfl, by omega, n, rfl, hn, fun _ => ?_, fun h => absurd (by rw [l3 _ _ hat, hB]) h⟩
      rw [l2]
      exact sh c.2.1.length S (by omega) (Nat.le_refl _) (fun _ _ _ _ => rfl) rfl rfl (fun j => by rw [if_neg (by omega)]) (fun j => by rw [if_neg (by omega)])
    | succ m ih =>
      intro i hi hj
      obtain ⟨x, hx⟩ := lget (l := c.2.1) (i := i) (by omega)
      have hne : x ≠ behind := fun z => by
        have := lidx_at (k := behind) (by rw [hx, z]) hj
        omega
      refine w80_130 ⟨i, rfl, by omega, n, rfl, hn, fun h => ?_, fun _ => ?_⟩
      · rw [l3 i x hx, hB, nI_eq_iff (by have := hw.lt hx; omega) (by omega)] at h
        exact absurd h hne
      rw [nI_add]
      refine ih (i + 1) (by omega) (fun j hj2 => ?_)
      by_cases e : j = i
      · rw [e, hx]
        exact fun z => hne (Option.some.inj z)
      · exact hj j (by omega)
  refine w80_0 ⟨n, rfl, hn, fun h => absurd (hk.symm.trans h) (by decide), fun _ => ⟨n, rfl, hn, fun h => absurd (hk.symm.trans h) (by decide), fun _ => ⟨n, rfl, hn, fun _ => fd (lidx behind c.2.1) 0 (by omega) (fun j hj => by omega), fun h => absurd hk h⟩⟩⟩
end RL
