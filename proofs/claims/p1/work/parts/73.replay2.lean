/-! The reference: replay of SET and OUT; look. -/
theorem lpos_sp (k : Nat) : ∀ l : List Nat, (∀ j x, j < lpos k l → l[j]? = some x → x < k) ∧ ∀ x, l[lpos k l]? = some x → ¬ x < k
  | [] => ⟨fun j x h => by unfold lpos at h; omega, fun x h => by simp at h⟩
  | a :: r => by
    obtain ⟨h1, h2⟩ := lpos_sp k r
    unfold lpos
    by_cases ha : a < k
    · rw [if_pos ha]
      refine ⟨fun j x hj hx => ?_, fun x hx => ?_⟩
      · cases j with
        | zero =>
          rw [List.getElem?_cons_zero] at hx
          rw [← Option.some.inj hx]
          exact ha
        | succ j =>
          rw [List.getElem?_cons_succ] at hx
          exact h1 j x (by omega) hx
      · rw [List.getElem?_cons_succ] at hx
        exact h2 x hx
    · rw [if_neg ha]
      refine ⟨fun j x hj => by omega, fun x hx => ?_⟩
      rw [List.getElem?_cons_zero] at hx
      rw [← Option.some.inj hx]
      exact ha
theorem lidx_lpos {k : Nat} {l : List Nat} (h : l[lpos k l]? = some k) : lidx k l = lpos k l :=
  lidx_at h (fun j hj z => absurd ((lpos_sp k l).1 j k hj z) (Nat.lt_irrefl k))
section RE
variable {S : zS} {d n k : Nat} {c : aCon}
theorem r81a {Q : zO → zT → Prop} (hl : mlook S c) (hw : wcon c) (hY : S 1280 0 n = nI k) (hk : k < 64) (hn : n < 1300) (kk : zwp 81 (59, [some (.inr (some (16, 0))), some (.inl (nI n)), some (.inl (nI (lpos k c.2.1))), none, none], [.inl (b2i (decide (c.2.1[lpos k c.2.1]? = some k)))], (S, d)) Q) : zwp 81 (0, zent 81 [.inr (some (16, 0)), .inl (nI n)], [], (S, d)) Q := by
  obtain ⟨l1, l2, l3, l4⟩ := hl
  have hlen := hw.1
  have hle := lpos_le k c.2.1
  obtain ⟨s1, s2⟩ := lpos_sp k c.2.1
  have k31 : zwp 81 (31, [some (.inr (some (16, 0))), some (.inl (nI n)), some (.inl (nI (lpos k c.2.1))), none, none], [], (S, d)) Q := by
    refine w81_31 ⟨fun h => ?_, fun h => ⟨lpos k c.2.1, rfl, by omega, n, rfl, hn, fun he => ?_, fun he => ?_⟩⟩
    · rw [l2, nI_le_iff (by omega) (by omega)] at h
      have e : decide (c.2.1[lpos k c.2.1]? = some k) = false := decide_eq_false (fun z => by
        have := (List.getElem?_eq_some_iff.mp z).1
        omega)
      rw [e] at kk
      exact kk
    · rw [l2, nI_le_iff (by omega) (by omega)] at h
      obtain ⟨x, hx⟩ := lget (l := c.2.1) (i := lpos k c.2.1) (by omega)
      rw [l3 _ _ hx, hY, nI_eq_iff (by have := hw.lt hx; omega) (by omega)] at he
      rw [decide_eq_true (by rw [hx, he])] at kk
      exact kk
    · rw [l2, nI_le_iff (by omega) (by omega)] at h
      obtain ⟨x, hx⟩ := lget (l := c.2.1) (i := lpos k c.2.1) (by omega)
      rw [l3 _ _ hx, hY, nI_eq_iff (by have := hw.lt hx; omega) (by omega)] at he
      rw [decide_eq_false (by rw [hx]; exact fun z => he (Option.some.inj z))] at kk
      exact kk
  have fd : ∀ (m i : Nat), i + m = lpos k c.2.1 → zwp 81 (2, [some (.inr (some (16, 0))), some (.inl (nI n)), some (.inl (nI i)), none, none], [], (S, d)) Q := by
    intro m
    induction m with
    | zero =>
      intro i hi
      have hi : i = lpos k c.2.1 := by omega
      subst hi
      refine w81_2 ⟨fun _ => k31, fun h => ⟨lpos k c.2.1, rfl, by omega, n, rfl, hn, fun _ => k31, fun hg => ?_⟩⟩
      rw [l2, nI_le_iff (by omega) (by omega)] at h
      obtain ⟨x, hx⟩ := lget (l := c.2.1) (i := lpos k c.2.1) (by omega)
      rw [l3 _ _ hx, hY, nI_le_iff (by omega) (by have := hw.lt hx; omega)] at hg
      have := s2 x hx
      omega
    | succ m ih =>
      intro i hi
      obtain ⟨x, hx⟩ := lget (l := c.2.1) (i := i) (by omega)
      have hxk := s1 i x (by omega) hx
      refine w81_2 ⟨fun h => ?_, fun _ => ⟨i, rfl, by omega, n, rfl, hn, fun hg => ?_, fun _ => ?_⟩⟩
      · rw [l2, nI_le_iff (by omega) (by omega)] at h
        omega
      · rw [l3 _ _ hx, hY, nI_le_iff (by omega) (by have := hw.lt hx; omega)] at hg
        omega
      · rw [nI_add]
        exact ih (i + 1) (by omega)
  exact w81_0 (fd (lpos k c.2.1) 0 (by omega))
theorem r81O (hK : S 1088 0 n = nI 2) (hl : mlook S c) (hw : wcon c) (hb : c.1 = false) (hY : S 1280 0 n = nI k) (hk : k < 64) (hn : n < 1300) (hin : c.2.1[lpos k c.2.1]? = some k) : zwp 81 (0, zent 81 [.inr (some (16, 0)), .inl (nI n)], [], (S, d)) (fun o t => ∃ S', o = .inl none ∧ t = (S', d) ∧ zfr S S' plk ∧ mlook S' (cDrop k c)) := by
  have hP := (List.getElem?_eq_some_iff.mp hin).1
  have hlen := hw.1
  have hts : c.2.2.length = c.2.1.length := by
    have := hw.2.2.1
    rw [hb] at this
    simpa using this
  refine r81a hl hw hY hk hn ?_
  obtain ⟨l1, l2, l3, l4⟩ := hl
  have hid := lidx_lpos hin
  have sh : ∀ (m i : Nat) (S1 : zS), i + m = c.2.1.length - 1 → lpos k c.2.1 ≤ i → zfr S S1 plk → S1 1048 0 0 = S 1048 0 0 → S1 1049 0 0 = nI (c.2.1.length - 1) → (∀ j, S1 1984 0 j = if lpos k c.2.1 ≤ j ∧ j < i then S 1984 0 (j + 1) else S 1984 0 j) → (∀ j, S1 2048 0 j = if lpos k c.2.1 ≤ j ∧ j < i then S 2048 0 (j + 1) else S 2048 0 j) → ∀ x3, zwp 81 (83, [some (.inr (some (16, 0))), some (.inl (nI n)), some (.inl (nI (lpos k c.2.1))), some (.inl x3), some (.inl (nI i))], [], (S1, d)) (fun o t => ∃ S', o = .inl none ∧ t = (S', d) ∧ zfr S S' plk ∧ mlook S' (cDrop k c)) := by
    intro m
    induction m with
    | zero =>
      intro i S1 hi h1 hfr e1 e2 e3 e4 x3
      refine w81_83 ⟨fun _ => ⟨S1, rfl, rfl, hfr, by rw [e1]; exact l1, ?_, fun j x hj => ?_, fun j v hj => ?_⟩, fun hg => ?_⟩
      · rw [e2]
        show _ = nI (c.2.1.eraseIdx (lidx k c.2.1)).length
        rw [hid, List.length_eraseIdx_of_lt hP]
      · have hj' : (c.2.1.eraseIdx (lidx k c.2.1))[j]? = some x := hj
        rw [hid, List.getElem?_eraseIdx] at hj'
        rw [e3 j]
        by_cases j1 : j < lpos k c.2.1
        · rw [if_pos j1] at hj'
          rw [if_neg (by omega)]
          exact l3 j x hj'
        · rw [if_neg j1] at hj'
          have := (List.getElem?_eq_some_iff.mp hj').1
          rw [if_pos (by omega)]
          exact l3 (j + 1) x hj'
      · have hj' : (c.2.2.eraseIdx (lidx k c.2.1))[j]? = some v := hj
        rw [hid, List.getElem?_eraseIdx] at hj'
        rw [e4 j]
        by_cases j1 : j < lpos k c.2.1
        · rw [if_pos j1] at hj'
          rw [if_neg (by omega)]
          exact l4 j v hj'
        · rw [if_neg j1] at hj'
          have := (List.getElem?_eq_some_iff.mp hj').1
          rw [if_pos (by omega)]
          exact l4 (j + 1) v hj'
      · rw [e2, nI_le_iff (by omega) (by omega)] at hg
        omega
    | succ m ih =>
      intro i S1 hi h1 hfr e1 e2 e3 e4 x3
      refine w81_83 ⟨fun hg => ?_, fun _ => ⟨i + 1, nI_add _ _, by omega, i, rfl, by omega, i + 1, nI_add _ _, by omega, i, rfl, by omega, ?_⟩⟩
      · rw [e2, nI_le_iff (by omega) (by omega)] at hg
        omega
      rw [nI_add]
      refine ih (i + 1) _ (by omega) (by omega) (fun f x j h => ?_) ?_ ?_ (fun j => ?_) (fun j => ?_) x3
      · rw [zu_f _ _ (fun z => h (by omega)), zu_f _ _ (fun z => h (by omega))]
        exact hfr f x j h
      · rw [zu_f _ _ (by decide), zu_f _ _ (by decide)]
        exact e1
      · rw [zu_f _ _ (by decide), zu_f _ _ (by decide)]
        exact e2
      · rw [zu_f _ _ (by decide)]
        by_cases j1 : j = i
        · rw [j1, zu_self, e3 (i + 1), if_neg (by omega), if_pos (by omega)]
        · rw [zu_j _ _ j1, e3 j]
          by_cases j2 : lpos k c.2.1 ≤ j ∧ j < i
          · rw [if_pos j2, if_pos (by omega)]
          · rw [if_neg j2, if_neg (by omega)]
      · by_cases j1 : j = i
        · rw [j1, zu_self, e4 (i + 1), if_neg (by omega), if_pos (by omega)]
        · rw [zu_j _ _ j1, zu_f _ _ (by decide), e4 j]
          by_cases j2 : lpos k c.2.1 ≤ j ∧ j < i
          · rw [if_pos j2, if_pos (by omega)]
          · rw [if_neg j2, if_neg (by omega)]
  refine w81_59 ⟨n, rfl, hn, fun _ => ?_, fun h => absurd hK h⟩
  refine sh (c.2.1.length - 1 - lpos k c.2.1) (lpos k c.2.1) _ (by omega) (Nat.le_refl _) (fun f x j h => zu_f _ _ (fun z => h (by omega))) (zu_f _ _ (by decide)) ?_ (fun j => ?_) (fun j => ?_) _
  · rw [zu_self, l2, nI_dec (by omega)]
  · rw [zu_f _ _ (by decide), if_neg (by omega)]
  · rw [zu_f _ _ (by decide), if_neg (by omega)]
theorem r81S {v : Int32} (hK : S 1088 0 n = nI 1) (hl : mlook S c) (hw : wcon c) (hb : c.1 = false) (hY : S 1280 0 n = nI k) (hV : S 1344 0 n = v) (hk : k < 64) (hn : n < 1300) (hr : c.2.1[lpos k c.2.1]? = some k ∨ c.2.1.length < 4) : zwp 81 (0, zent 81 [.inr (some (16, 0)), .inl (nI n)], [], (S, d)) (fun o t => ∃ S', o = .inl none ∧ t = (S', d) ∧ zfr S S' plk ∧ mlook S' (cEnter k v c)) := by
  have hlen := hw.1
  have hle := lpos_le k c.2.1
  have hts : c.2.2.length = c.2.1.length := by
    have := hw.2.2.1
    rw [hb] at this
    simpa using this
  refine r81a hl hw hY hk hn ?_
  obtain ⟨l1, l2, l3, l4⟩ := hl
  refine w81_59 ⟨n, rfl, hn, fun h => absurd (hK.symm.trans h) (by decide), fun _ => ⟨fun h0 => ?_, fun h0 => ?_⟩⟩
  · rw [b2i_0] at h0
    have h0 := of_decide_eq_false h0
    have h4 : c.2.1.length < 4 := hr.elim (fun z => absurd z h0) id
    have ec : cEnter k v c = (c.1, lins (lpos k c.2.1) k c.2.1, lins (lpos k c.2.1) v c.2.2) := by
      unfold cEnter
      rw [if_neg h0]
    have ent : ∀ (S1 : zS) (x3 : Int32) (i : Nat), i = lpos k c.2.1 → zfr S S1 plk → S1 1048 0 0 = S 1048 0 0 → S1 1049 0 0 = S 1049 0 0 → (∀ j, S1 1984 0 j = if i < j ∧ j ≤ c.2.1.length then S 1984 0 (j - 1) else S 1984 0 j) → (∀ j, S1 2048 0 j = if i < j ∧ j ≤ c.2.1.length then S 2048 0 (j - 1) else S 2048 0 j) → zwp 81 (195, [some (.inr (some (16, 0))), some (.inl (nI n)), some (.inl (nI (lpos k c.2.1))), some (.inl x3), some (.inl (nI i))], [], (zu S1 1049 0 0 (S1 1049 0 0 + nI 1), d)) (fun o t => ∃ S', o = .inl none ∧ t = (S', d) ∧ zfr S S' plk ∧ mlook S' (cEnter k v c)) := by
      intro S1 x3 i hi hfr e1 e2 e3 e4
      subst hi
      have hfr' : ∀ f i j, ¬ (f = 1048 ∨ f = 1049 ∨ f = 1984 ∨ f = 2048) → S1 f i j = S f i j := fun f i j h => hfr f i j h
      rw [ec]
      refine w81_195 ⟨n, rfl, hn, lpos k c.2.1, rfl, by omega, n, rfl, hn, lpos k c.2.1, rfl, by omega, ⟨_, rfl, rfl, fun f x j h => ?_, ?_, ?_, fun j x hj => ?_, fun j x hj => ?_⟩⟩
      · rw [zu_f _ _ (fun z => h (by omega)), zu_f _ _ (fun z => h (by omega)), zu_f _ _ (fun z => h (by omega))]
        exact hfr f x j h
      · rw [zu_f _ _ (by decide), zu_f _ _ (by decide), zu_f _ _ (by decide), e1]
        exact l1
      · rw [zu_f _ _ (by decide), zu_f _ _ (by decide), zu_self, e2, l2, nI_add]
        show _ = nI (lins _ _ _).length
        rw [lins_len]
      · have hj' : (lins (lpos k c.2.1) k c.2.1)[j]? = some x := hj
        rw [lins_get hle] at hj'
        rw [zu_f _ _ (by decide)]
        by_cases j1 : j = lpos k c.2.1
        · rw [if_neg (by omega), if_pos j1] at hj'
          rw [j1, zu_self, zu_f _ _ (by decide), hfr' _ _ _ (by decide), hY, Option.some.inj hj']
        · rw [zu_j _ _ j1, zu_f _ _ (by decide), e3 j]
          by_cases j2 : j < lpos k c.2.1
          · rw [if_pos j2] at hj'
            rw [if_neg (by omega)]
            exact l3 j x hj'
          · rw [if_neg j2, if_neg j1] at hj'
            have := (List.getElem?_eq_some_iff.mp hj').1
            rw [if_pos (by omega)]
            exact l3 (j - 1) x hj'
      · have hj' : (lins (lpos k c.2.1) v c.2.2)[j]? = some x := hj
        rw [lins_get (by omega)] at hj'
        by_cases j1 : j = lpos k c.2.1
        · rw [if_neg (by omega), if_pos j1] at hj'
          rw [j1, zu_self, zu_f _ _ (by decide), hfr' _ _ _ (by decide), hV, Option.some.inj hj']
        · rw [zu_j _ _ j1, zu_f _ _ (by decide), zu_f _ _ (by decide), e4 j]
          by_cases j2 : j < lpos k c.2.1
          · rw [if_pos j2] at hj'
            rw [if_neg (by omega)]
            exact l4 j x hj'
          · rw [if_neg j2, if_neg j1] at hj'
            have := (List.getElem?_eq_some_iff.mp hj').1
            rw [if_pos (by omega)]
            exact l4 (j - 1) x hj'
    have sh : ∀ (i : Nat) (S1 : zS) (x3 : Int32), lpos k c.2.1 ≤ i → i ≤ c.2.1.length → zfr S S1 plk → S1 1048 0 0 = S 1048 0 0 → S1 1049 0 0 = S 1049 0 0 → (∀ j, S1 1984 0 j = if i < j ∧ j ≤ c.2.1.length then S 1984 0 (j - 1) else S 1984 0 j) → (∀ j, S1 2048 0 j = if i < j ∧ j ≤ c.2.1.length then S 2048 0 (j - 1) else S 2048 0 j) → zwp 81 (141, [some (.inr (some (16, 0))), some (.inl (nI n)), some (.inl (nI (lpos k c.2.1))), some (.inl x3), some (.inl (nI i))], [], (S1, d)) (fun o t => ∃ S', o = .inl none ∧ t = (S', d) ∧ zfr S S' plk ∧ mlook S' (cEnter k v c)) := by
      intro i
      induction i with
      | zero =>
        intro S1 x3 h1 h2 hfr e1 e2 e3 e4
        exact w81_141 ⟨fun _ => ent S1 x3 0 (by omega) hfr e1 e2 e3 e4, fun hg => absurd (by rw [nI_le_iff (by omega) (by omega)]; omega) hg⟩
      | succ i ih =>
        intro S1 x3 h1 h2 hfr e1 e2 e3 e4
        by_cases he : lpos k c.2.1 = i + 1
        · exact w81_141 ⟨fun _ => ent S1 x3 (i + 1) he.symm hfr e1 e2 e3 e4, fun hg => absurd (by rw [nI_le_iff (by omega) (by omega)]; omega) hg⟩
        · refine w81_141 ⟨fun hg => ?_, fun _ => ⟨i, by rw [nI_sub2 (by omega)]; rfl, by omega, i + 1, rfl, by omega, i, by rw [nI_sub2 (by omega)]; rfl, by omega, i + 1, rfl, by omega, ?_⟩⟩
          · rw [nI_le_iff (by omega) (by omega)] at hg
            omega
          rw [nI_dec' (by omega)]
          refine ih _ x3 (by omega) (by omega) (fun f x j h => ?_) ?_ ?_ (fun j => ?_) (fun j => ?_)
          · rw [zu_f _ _ (fun z => h (by omega)), zu_f _ _ (fun z => h (by omega))]
            exact hfr f x j h
          · rw [zu_f _ _ (by decide), zu_f _ _ (by decide)]
            exact e1
          · rw [zu_f _ _ (by decide), zu_f _ _ (by decide)]
            exact e2
          · rw [zu_f _ _ (by decide)]
            by_cases j1 : j = i + 1
            · rw [j1, zu_self, e3 i, if_neg (by omega), if_pos (by omega)]
              rfl
            · rw [zu_j _ _ j1, e3 j]
              by_cases j2 : i + 1 < j ∧ j ≤ c.2.1.length
              · rw [if_pos j2, if_pos (by omega)]
              · rw [if_neg j2, if_neg (by omega)]
          · by_cases j1 : j = i + 1
            · rw [j1, zu_self, e4 i, if_neg (by omega), if_pos (by omega)]
              rfl
            · rw [zu_j _ _ j1, zu_f _ _ (by decide), e4 j]
              by_cases j2 : i + 1 < j ∧ j ≤ c.2.1.length
              · rw [if_pos j2, if_pos (by omega)]
              · rw [if_neg j2, if_neg (by omega)]
    rw [l2]
    exact sh c.2.1.length S _ hle (Nat.le_refl _) (fun _ _ _ _ => rfl) rfl rfl (fun j => by rw [if_neg (by omega)]) (fun j => by rw [if_neg (by omega)])
  · rw [b2i_0] at h0
    have h1 : c.2.1[lpos k c.2.1]? = some k := by
      by_cases h1 : c.2.1[lpos k c.2.1]? = some k
      · exact h1
      · exact absurd (decide_eq_false h1) h0
    have hP := (List.getElem?_eq_some_iff.mp h1).1
    have e : cEnter k v c = (c.1, c.2.1, c.2.2.set (lpos k c.2.1) v) := by
      unfold cEnter
      rw [if_pos h1]
    rw [e]
    refine w81_195 ⟨n, rfl, hn, lpos k c.2.1, rfl, by omega, n, rfl, hn, lpos k c.2.1, rfl, by omega, ⟨_, rfl, rfl, fun f x j h => ?_, ?_, ?_, fun j x hj => ?_, fun j x hj => ?_⟩⟩
    · rw [zu_f _ _ (fun z => h (by omega)), zu_f _ _ (fun z => h (by omega))]
    · rw [zu_f _ _ (by decide), zu_f _ _ (by decide)]
      exact l1
    · rw [zu_f _ _ (by decide), zu_f _ _ (by decide)]
      exact l2
    · have hj : c.2.1[j]? = some x := hj
      rw [zu_f _ _ (by decide)]
      by_cases j1 : j = lpos k c.2.1
      · rw [j1, zu_self, hY]
        rw [j1, h1] at hj
        rw [Option.some.inj hj]
      · rw [zu_j _ _ j1]
        exact l3 j x hj
    · have hj : (c.2.2.set (lpos k c.2.1) v)[j]? = some x := hj
      by_cases j1 : j = lpos k c.2.1
      · rw [j1, zu_self, hV]
        rw [j1, List.getElem?_set_self (by omega)] at hj
        exact Option.some.inj hj
      · rw [zu_j _ _ j1, zu_f _ _ (by decide)]
        rw [List.getElem?_set_ne (Ne.symm j1)] at hj
        exact l4 j x hj
end RE
