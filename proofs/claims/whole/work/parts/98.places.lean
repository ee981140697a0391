/-! Places: who is open, who holds what, who is lost. -/
section W0
variable {lg : Nat → aRec} {ss s : Nat}
theorem w_edw (hs : ss < s) : ∀ {n : Nat}, (∀ j, j < n → rW (lg (j + 1)) ≤ ss) → edw lg s n = false
  | 0, _ => rfl
  | n + 1, h => by
    have := h n (by omega)
    rw [edw, w_edw hs (fun j hj => h j (by omega)), decide_eq_false (fun z => by omega)]
    rfl
theorem w_has {k : Nat} (hs : ss < s) : ∀ {n : Nat}, (∀ j, j < n → rW (lg (j + 1)) ≤ ss) → hasK lg s k n = false
  | 0, _ => rfl
  | n + 1, h => by
    have := h n (by omega)
    rw [hasK, w_has hs (fun j hj => h j (by omega)), decide_eq_false (fun z => by omega)]
    rfl
theorem opk_f {sr : Nat → Nat} : ∀ {n : Nat}, (∀ t, t < n → sr t ≠ s) → opk sr s n = false
  | 0, _ => rfl
  | n + 1, h => by
    rw [opk, opk_f (fun t ht => h t (by omega)), decide_eq_false (h n (by omega))]
    rfl
theorem opk_n {sr : Nat → Nat} : ∀ {n : Nat}, opk sr s n = false → ∀ t, t < n → sr t ≠ s
  | 0, _, t, ht => by omega
  | n + 1, h, t, ht => by
    rw [opk, Bool.or_eq_false_iff, decide_eq_false_iff_not] at h
    by_cases e : t = n
    · rw [e]
      exact h.2
    · exact opk_n h.1 t (by omega)
-- one who wrote and hasn't ended has changed a key
theorem hsw_has (s1 : 1 ≤ s) : ∀ {n : Nat}, TR lg n → hsw lg s n = true → edw lg s n = false → ∃ k, k < 40 ∧ hasK lg s k n = true
  | 0, _, h, _ => by cases h
  | n + 1, ht, h, he => by
    obtain ⟨e1, e2⟩ := edw_0 he
    rw [hsw, Bool.or_eq_true, decide_eq_true_eq] at h
    rcases h with h | h
    · obtain ⟨k, q1, q2⟩ := hsw_has s1 (TR_sub ht (Nat.le_succ n)) h e1
      exact ⟨k, q1, hasK_mono (Nat.le_succ n) q2⟩
    · obtain ⟨t1, t2, t3, t4, t5, t6, t7⟩ := ht n (by omega)
      have hK : rK (lg (n + 1)) = 1 ∨ rK (lg (n + 1)) = 2 := by
        by_cases h3 : 3 ≤ rK (lg (n + 1))
        · by_cases h5 : rK (lg (n + 1)) ≤ 5
          · have := (t2 h3 h5).1
            omega
          · exact absurd ⟨h, by omega⟩ e2
        · omega
      refine ⟨rY (lg (n + 1)), (t1 hK).1, ?_⟩
      rw [hasK, decide_eq_true ⟨hK, h, rfl⟩, Bool.or_true]
-- the losers by the log
theorem los_iff {k : Nat} (s1 : 1 ≤ s) : ∀ {n : Nat}, TR lg n → (losOf lg n k = s ↔ hasK lg s k n = true ∧ edw lg s n = false)
  | 0, _ => ⟨fun h => by have h : 0 = s := h; omega, fun h => by cases h.1⟩
  | n + 1, ht => by
    have ih := los_iff (k := k) s1 (TR_sub ht (Nat.le_succ n))
    obtain ⟨t1, t2, t3, t4, t5, t6, t7⟩ := ht n (by omega)
    rw [losOf, hasK, edw, Bool.or_eq_true, Bool.or_eq_false_iff, decide_eq_true_eq, decide_eq_false_iff_not]
    by_cases hK : rK (lg (n + 1)) = 1 ∨ rK (lg (n + 1)) = 2
    · rw [if_pos hK]
      obtain ⟨q1, q2, q3, q4, -⟩ := t1 hK
      have h6 : ¬ (rW (lg (n + 1)) = s ∧ 6 ≤ rK (lg (n + 1))) := fun z => by omega
      by_cases hk : k = rY (lg (n + 1))
      · rw [if_pos hk]
        constructor
        · intro h
          rw [← h]
          exact ⟨Or.inr ⟨hK, rfl, hk.symm⟩, q3, fun z => by omega⟩
        · rintro ⟨z1, z2, -⟩
          rcases z1 with z1 | z1
          · by_cases e : s = rW (lg (n + 1))
            · exact e.symm
            · have := q4 s s1 e (by rw [← hk]; exact z1)
              rw [z2] at this
              cases this
          · exact z1.2.1
      · rw [if_neg hk, ih]
        exact ⟨fun z => ⟨Or.inl z.1, z.2, h6⟩, fun z => ⟨z.1.elim id (fun y => absurd y.2.2.symm hk), z.2.1⟩⟩
    · rw [if_neg hK]
      have hn : ¬ ((rK (lg (n + 1)) = 1 ∨ rK (lg (n + 1)) = 2) ∧ rW (lg (n + 1)) = s ∧ rY (lg (n + 1)) = k) := fun z => hK z.1
      by_cases h6 : 6 ≤ rK (lg (n + 1))
      · rw [if_pos h6]
        by_cases hw : losOf lg n k = rW (lg (n + 1))
        · rw [if_pos hw]
          constructor
          · intro h
            omega
          · rintro ⟨z1, z2, z3⟩
            have := ih.mpr ⟨z1.elim id (fun y => absurd y hn), z2⟩
            exact absurd ⟨by omega, h6⟩ z3
        · rw [if_neg hw, ih]
          refine ⟨fun z => ⟨Or.inl z.1, z.2, fun y => ?_⟩, fun z => ⟨z.1.elim id (fun y => absurd y hn), z.2.1⟩⟩
          have := ih.mpr z
          omega
      · rw [if_neg h6, ih]
        exact ⟨fun z => ⟨Or.inl z.1, z.2, fun y => h6 y.2⟩, fun z => ⟨z.1.elim id (fun y => absurd y hn), z.2.1⟩⟩
theorem los_le {k : Nat} : ∀ {n : Nat}, (∀ j, j < n → rW (lg (j + 1)) ≤ ss) → losOf lg n k ≤ ss
  | 0, _ => Nat.zero_le _
  | n + 1, h => by
    have h1 := h n (by omega)
    have h2 := los_le (k := k) (n := n) (fun j hj => h j (by omega))
    rw [losOf]
    split
    · split
      · exact h1
      · exact h2
    · split
      · split
        · exact Nat.zero_le _
        · exact h2
      · exact h2
end W0
def LSo (A : aSt) (sr ls : Nat → Nat) : Prop := ∀ k, k < 40 → ∀ s, 1 ≤ s → (ls k = s ↔ hasK (gL A) s k (gN A) = true ∧ edw (gL A) s (gN A) = false ∧ ∀ t, t < 4 → sr t ≠ s)
def PL (A : aSt) (sr : Nat → Nat) (ss : Nat) (hd : Nat → Nat → Nat) (ls : Nat → Nat) : Prop :=
  (∀ t, sr t ≤ ss) ∧ (∀ t, t < 4 → sr t ≠ 0 → edw (gL A) (sr t) (gN A) = false) ∧ (∀ t t', t < 4 → t' < 4 → sr t ≠ 0 → sr t = sr t' → t = t') ∧
  wheld hd ∧ (∀ t t' k, t < 4 → t' < 4 → t ≠ t' → k < 40 → hd t k = 2 → hd t' k = 0) ∧
  (∀ t k, t < 4 → k < 40 → sr t ≠ 0 → hasK (gL A) (sr t) k (gN A) = true → hd t k = 2) ∧
  (LSo A sr ls ∧ ∀ k, ls k ≤ ss) ∧ (∀ t k, t < 4 → k < 40 → ls k ≠ 0 → hd t k = 0)
section PLS
variable {A B : aSt} {sr : Nat → Nat} {ss : Nat} {hd : Nat → Nat → Nat} {ls : Nat → Nat}
theorem PL_ef (h : PL A sr ss hd ls) (he : ∀ s, edw (gL B) s (gN B) = edw (gL A) s (gN A)) (hh : ∀ s k, hasK (gL B) s k (gN B) = hasK (gL A) s k (gN A)) : PL B sr ss hd ls := by
  obtain ⟨h1, h2, h3, h4, h5, h6, ⟨h7, h8⟩, h9⟩ := h
  refine ⟨h1, fun t q1 q2 => (he _).trans (h2 t q1 q2), h3, h4, h5, fun t k q1 q2 q3 q4 => h6 t k q1 q2 q3 (by rw [← hh]; exact q4), ⟨fun k hk s hs => ?_, h8⟩, h9⟩
  rw [hh, he]
  exact h7 k hk s hs
theorem PL_same (h : PL A sr ss hd ls) (hL : gL B = gL A) (hN : gN B = gN A) : PL B sr ss hd ls := PL_ef h (fun s => by rw [hL, hN]) (fun s k => by rw [hL, hN])
theorem PL.wl (h : PL A sr ss hd ls) (h2 : ss < 2000) : wlos ls := fun k => Nat.lt_of_le_of_lt (h.2.2.2.2.2.2.1.2 k) h2
theorem PL.R (h : PL A sr ss hd ls) : lsR A sr ss ls := fun k hk => ⟨h.2.2.2.2.2.2.1.2 k, fun s s1 s2 => by
  have hi := h.2.2.2.2.2.2.1.1 k hk s s1
  unfold isLo
  by_cases e : ls k = s
  · obtain ⟨q1, q2, q3⟩ := hi.mp e
    rw [decide_eq_true e, q1, q2, hasK_hsw q1, opk_f q3]
    rfl
  · rw [decide_eq_false e]
    cases h1 : hasK (gL A) s k (gN A) with
    | false => rfl
    | true =>
      cases h2 : edw (gL A) s (gN A) with
      | true => simp
      | false =>
        cases h3 : opk sr s 4 with
        | true => simp
        | false => exact absurd (hi.mpr ⟨h1, h2, opk_n h3⟩) e⟩
theorem PL.S (h : PL A sr ss hd ls) (hJ : JJ A ss) : lsS A sr ss ls := ⟨fun k _ => h.2.2.2.2.2.2.1.2 k, fun s s1 s2 => by
  unfold isLo
  constructor
  · intro hi
    rw [Bool.and_eq_true, Bool.and_eq_true, Bool.not_eq_true', Bool.not_eq_true'] at hi
    obtain ⟨k, q1, q2⟩ := hsw_has s1 hJ.2.1.2 hi.1.1 hi.1.2
    exact ⟨k, q1, (h.2.2.2.2.2.2.1.1 k q1 s s1).mpr ⟨q2, hi.1.2, opk_n hi.2⟩⟩
  · rintro ⟨k, q1, q2⟩
    obtain ⟨z1, z2, z3⟩ := (h.2.2.2.2.2.2.1.1 k q1 s s1).mp q2
    rw [hasK_hsw z1, z2, opk_f z3]
    rfl⟩
theorem relL_le {s : Nat} (h : ∀ k, ls k ≤ ss) : ∀ k, relL ls s k ≤ ss := fun k => by
  unfold relL
  split
  · exact Nat.zero_le _
  · exact h k
-- a loser is rolled back
theorem PL_roll {s : Nat} (h : PL A sr ss hd ls) (he : ∀ s', edw (gL B) s' (gN B) = (edw (gL A) s' (gN A) || decide (s' = s))) (hh : ∀ s' k, hasK (gL B) s' k (gN B) = hasK (gL A) s' k (gN A)) (hs : ∀ t, t < 4 → sr t ≠ s) : PL B sr ss hd (relL ls s) := by
  obtain ⟨h1, h2, h3, h4, h5, h6, ⟨h7, h8⟩, h9⟩ := h
  refine ⟨h1, fun t q1 q2 => ?_, h3, h4, h5, fun t k q1 q2 q3 q4 => h6 t k q1 q2 q3 (by rw [← hh]; exact q4), ⟨fun k hk s' hs' => ?_, relL_le h8⟩, fun t k q1 q2 q3 => h9 t k q1 q2 (fun z => q3 ?_)⟩
  · rw [he, h2 t q1 q2, decide_eq_false (hs t q1)]
    rfl
  · rw [hh, he, Bool.or_eq_false_iff, decide_eq_false_iff_not]
    have hi := h7 k hk s' hs'
    unfold relL
    by_cases e : ls k = s
    · rw [if_pos e]
      constructor
      · intro z
        omega
      · rintro ⟨z1, ⟨z2, z3⟩, z4⟩
        have := hi.mpr ⟨z1, z2, z4⟩
        omega
    · rw [if_neg e, hi]
      refine ⟨fun z => ⟨z.1, ⟨z.2.1, fun y => ?_⟩, z.2.2⟩, fun z => ⟨z.1, z.2.1.1, z.2.2⟩⟩
      have := hi.mpr z
      omega
  · unfold relL
    split
    · rfl
    · exact z
theorem PL_ls {ls' : Nat → Nat} (h : PL A sr ss hd ls) (hl : ∀ k, k < 40 → ls' k = ls k) (hm : ∀ k, ls' k ≤ ss) : PL A sr ss hd ls' := by
  obtain ⟨h1, h2, h3, h4, h5, h6, ⟨h7, h8⟩, h9⟩ := h
  refine ⟨h1, h2, h3, h4, h5, h6, ⟨fun k hk s' hs' => ?_, hm⟩, fun t k q1 q2 q3 => h9 t k q1 q2 ?_⟩
  · rw [hl k hk]
    exact h7 k hk s' hs'
  · rw [← hl k q2]
    exact q3
-- a place ends
theorem PL_close {t : Nat} (h : PL A sr ss hd ls) (ht : t < 4) (h0 : sr t ≠ 0) (he : ∀ s', edw (gL B) s' (gN B) = (edw (gL A) s' (gN A) || decide (s' = sr t))) (hh : ∀ s' k, hasK (gL B) s' k (gN B) = hasK (gL A) s' k (gN A)) : PL B (clS sr t) ss (clH hd t) ls := by
  obtain ⟨h1, h2, h3, h4, h5, h6, ⟨h7, h8⟩, h9⟩ := h
  have c1 : ∀ x, clS sr t x ≠ 0 → x ≠ t ∧ clS sr t x = sr x := fun x hx => by
    unfold clS at hx ⊢
    by_cases e : x = t
    · rw [if_pos e] at hx
      exact absurd rfl hx
    · rw [if_neg e]
      exact ⟨e, rfl⟩
  refine ⟨fun x => ?_, fun x q1 q2 => ?_, fun x y q1 q2 q3 q4 => ?_, fun x k => ?_, fun x y k q1 q2 q3 q4 q5 => ?_, fun x k q1 q2 q3 q4 => ?_, ⟨fun k hk s' hs' => ?_, h8⟩, fun x k q1 q2 q3 => ?_⟩
  · unfold clS
    split
    · exact Nat.zero_le _
    · exact h1 x
  · obtain ⟨e1, e2⟩ := c1 x q2
    rw [e2] at q2 ⊢
    rw [he, h2 x q1 q2, decide_eq_false (fun z => e1 (h3 x t q1 ht q2 z))]
    rfl
  · obtain ⟨e1, e2⟩ := c1 x q3
    obtain ⟨e3, e4⟩ := c1 y (by rw [← q4]; exact q3)
    rw [e2] at q3
    rw [e2, e4] at q4
    exact h3 x y q1 q2 q3 q4
  · unfold clH
    split
    · exact Nat.zero_le _
    · exact h4 x k
  · unfold clH at q5 ⊢
    by_cases e : x = t
    · rw [if_pos e] at q5
      omega
    · rw [if_neg e] at q5
      split
      · rfl
      · exact h5 x y k q1 q2 q3 q4 q5
  · obtain ⟨e1, e2⟩ := c1 x q3
    rw [e2] at q3 q4
    unfold clH
    rw [if_neg e1]
    exact h6 x k q1 q2 q3 (by rw [← hh]; exact q4)
  · rw [h7 k hk s' hs', hh, he, Bool.or_eq_false_iff, decide_eq_false_iff_not]
    constructor
    · rintro ⟨z1, z2, z3⟩
      refine ⟨z1, ⟨z2, fun y => z3 t ht y.symm⟩, fun x hx => ?_⟩
      unfold clS
      split
      · omega
      · exact z3 x hx
    · rintro ⟨z1, ⟨z2, z4⟩, z3⟩
      refine ⟨z1, z2, fun x hx => ?_⟩
      by_cases e : x = t
      · rw [e]
        exact fun y => z4 y.symm
      · have := z3 x hx
        unfold clS at this
        rw [if_neg e] at this
        exact this
  · unfold clH
    split
    · rfl
    · exact h9 x k q1 q2 q3
-- a place begins
theorem PL_begin {t : Nat} (h : PL A sr ss hd ls) (hJ : JJ A ss) (h0 : sr t = 0) : PL A (upN sr t (ss + 1)) (ss + 1) hd ls := by
  obtain ⟨h1, h2, h3, h4, h5, h6, ⟨h7, h8⟩, h9⟩ := h
  have hW := hJ.2.2.2.1
  have u1 : ∀ x, x = t ∧ upN sr t (ss + 1) x = ss + 1 ∨ x ≠ t ∧ upN sr t (ss + 1) x = sr x := fun x => by
    unfold upN
    by_cases e : x = t
    · rw [if_pos e]
      exact Or.inl ⟨e, rfl⟩
    · rw [if_neg e]
      exact Or.inr ⟨e, rfl⟩
  refine ⟨fun x => ?_, fun x q1 q2 => ?_, fun x y q1 q2 q3 q4 => ?_, h4, h5, fun x k q1 q2 q3 q4 => ?_, ⟨fun k hk s' hs' => ?_, fun k => Nat.le_succ_of_le (h8 k)⟩, h9⟩
  · rcases u1 x with ⟨e1, e2⟩ | ⟨e1, e2⟩
    · omega
    · have := h1 x
      omega
  · rcases u1 x with ⟨e1, e2⟩ | ⟨e1, e2⟩
    · rw [e2]
      exact w_edw (Nat.lt_succ_self ss) hW
    · rw [e2] at q2 ⊢
      exact h2 x q1 q2
  · have a1 := h1 x
    have a2 := h1 y
    rcases u1 x with ⟨e1, e2⟩ | ⟨e1, e2⟩
    · rcases u1 y with ⟨e3, e4⟩ | ⟨e3, e4⟩
      · omega
      · omega
    · rcases u1 y with ⟨e3, e4⟩ | ⟨e3, e4⟩
      · omega
      · exact h3 x y q1 q2 (by omega) (by omega)
  · rcases u1 x with ⟨e1, e2⟩ | ⟨e1, e2⟩
    · rw [e2, w_has (Nat.lt_succ_self ss) hW] at q4
      cases q4
    · rw [e2] at q3 q4
      exact h6 x k q1 q2 q3 q4
  · rw [h7 k hk s' hs']
    constructor
    · rintro ⟨z1, z2, z3⟩
      refine ⟨z1, z2, fun x hx => ?_⟩
      rcases u1 x with ⟨e1, e2⟩ | ⟨e1, e2⟩
      · intro y
        rw [e2] at y
        rw [← y, w_has (Nat.lt_succ_self ss) hW] at z1
        cases z1
      · rw [e2]
        exact z3 x hx
    · rintro ⟨z1, z2, z3⟩
      refine ⟨z1, z2, fun x hx => ?_⟩
      rcases u1 x with ⟨e1, e2⟩ | ⟨e1, e2⟩
      · rw [e1]
        omega
      · have := z3 x hx
        rw [e2] at this
        exact this
-- a key is taken to read, to write
theorem oth_n {t k m u : Nat} (h : oth hd t k m = false) (hu : u < 4) (hn : u ≠ t) : hd u k < m := by
  rcases Nat.lt_or_ge (hd u k) m with z | z
  · exact z
  · rw [oth_t hu hn z] at h
    cases h
theorem up2_at {t k v x j : Nat} : (x = t ∧ j = k) ∧ up2 hd t k v x j = v ∨ ¬ (x = t ∧ j = k) ∧ up2 hd t k v x j = hd x j := by
  unfold up2
  by_cases e : x = t ∧ j = k
  · rw [if_pos e]
    exact Or.inl ⟨e, rfl⟩
  · rw [if_neg e]
    exact Or.inr ⟨e, rfl⟩
theorem PL_read {t k : Nat} (h : PL A sr ss hd ls) (ht : t < 4) (hk : k < 40) (hl : ls k = 0) (hn : ¬ (hd t k = 0 ∧ oth hd t k 2 = true)) : PL A sr ss (if hd t k = 0 then up2 hd t k 1 else hd) ls := by
  by_cases e0 : hd t k = 0
  · rw [if_pos e0]
    have ho : oth hd t k 2 = false := cb (fun z => hn ⟨e0, z⟩)
    obtain ⟨h1, h2, h3, h4, h5, h6, ⟨h7, h8⟩, h9⟩ := h
    refine ⟨h1, h2, h3, fun x j => ?_, fun x y j q1 q2 q3 q4 q5 => ?_, fun x j q1 q2 q3 q4 => ?_, ⟨h7, h8⟩, fun x j q1 q2 q3 => ?_⟩
    · rcases up2_at (hd := hd) (t := t) (k := k) (v := 1) (x := x) (j := j) with ⟨-, e⟩ | ⟨-, e⟩
      · omega
      · rw [e]
        exact h4 x j
    · rcases up2_at (hd := hd) (t := t) (k := k) (v := 1) (x := x) (j := j) with ⟨-, e⟩ | ⟨-, e⟩
      · omega
      · rw [e] at q5
        rcases up2_at (hd := hd) (t := t) (k := k) (v := 1) (x := y) (j := j) with ⟨⟨a1, a2⟩, e'⟩ | ⟨-, e'⟩
        · have := oth_n ho q1 (fun z => q3 (z.trans a1.symm))
          rw [a2] at q5
          omega
        · rw [e']
          exact h5 x y j q1 q2 q3 q4 q5
    · have := h6 x j q1 q2 q3 q4
      rcases up2_at (hd := hd) (t := t) (k := k) (v := 1) (x := x) (j := j) with ⟨⟨a1, a2⟩, e⟩ | ⟨-, e⟩
      · rw [a1, a2] at this
        omega
      · rw [e]
        exact this
    · rcases up2_at (hd := hd) (t := t) (k := k) (v := 1) (x := x) (j := j) with ⟨⟨a1, a2⟩, e⟩ | ⟨-, e⟩
      · rw [a2] at q3
        exact absurd hl q3
      · rw [e]
        exact h9 x j q1 q2 q3
  · rw [if_neg e0]
    exact h
theorem PL_write {t k : Nat} (h : PL A sr ss hd ls) (ht : t < 4) (hk : k < 40) (h0 : sr t ≠ 0) (hl : ls k = 0) (ho : oth hd t k 1 = false) (he : ∀ s', edw (gL B) s' (gN B) = edw (gL A) s' (gN A)) (hh : ∀ s' j, hasK (gL B) s' j (gN B) = true → hasK (gL A) s' j (gN A) = true ∨ (s' = sr t ∧ j = k)) (hh2 : ∀ s' j, hasK (gL A) s' j (gN A) = true → hasK (gL B) s' j (gN B) = true) : PL B sr ss (up2 hd t k 2) ls := by
  obtain ⟨h1, h2, h3, h4, h5, h6, ⟨h7, h8⟩, h9⟩ := h
  refine ⟨h1, fun x q1 q2 => (he _).trans (h2 x q1 q2), h3, fun x j => ?_, fun x y j q1 q2 q3 q4 q5 => ?_, fun x j q1 q2 q3 q4 => ?_, ⟨fun j hj s' hs' => ?_, h8⟩, fun x j q1 q2 q3 => ?_⟩
  · rcases up2_at (hd := hd) (t := t) (k := k) (v := 2) (x := x) (j := j) with ⟨-, e⟩ | ⟨-, e⟩
    · omega
    · rw [e]
      exact h4 x j
  · rcases up2_at (hd := hd) (t := t) (k := k) (v := 2) (x := x) (j := j) with ⟨⟨a1, a2⟩, e⟩ | ⟨a0, e⟩
    · rcases up2_at (hd := hd) (t := t) (k := k) (v := 2) (x := y) (j := j) with ⟨⟨b1, b2⟩, e'⟩ | ⟨-, e'⟩
      · exact absurd (a1.trans b1.symm) q3
      · rw [e', a2]
        have := oth_n ho q2 (fun z => q3 (a1.trans z.symm))
        omega
    · rw [e] at q5
      rcases up2_at (hd := hd) (t := t) (k := k) (v := 2) (x := y) (j := j) with ⟨⟨b1, b2⟩, e'⟩ | ⟨-, e'⟩
      · have := oth_n ho q1 (fun z => q3 (z.trans b1.symm))
        rw [b2] at q5
        omega
      · rw [e']
        exact h5 x y j q1 q2 q3 q4 q5
  · rcases up2_at (hd := hd) (t := t) (k := k) (v := 2) (x := x) (j := j) with ⟨-, e⟩ | ⟨a0, e⟩
    · exact e
    · rw [e]
      rcases hh _ _ q4 with z | z
      · exact h6 x j q1 q2 q3 z
      · exact absurd ⟨h3 x t q1 ht q3 z.1, z.2⟩ a0
  · rw [h7 j hj s' hs', he]
    refine ⟨fun z => ⟨hh2 _ _ z.1, z.2⟩, fun z => ⟨?_, z.2⟩⟩
    rcases hh _ _ z.1 with y | y
    · exact y
    · exact absurd y.1.symm (z.2.2 t ht)
  · rcases up2_at (hd := hd) (t := t) (k := k) (v := 2) (x := x) (j := j) with ⟨⟨a1, a2⟩, e⟩ | ⟨-, e⟩
    · rw [a2] at q3
      exact absurd hl q3
    · rw [e]
      exact h9 x j q1 q2 q3
-- nobody else writes there
theorem PL.ex {t k : Nat} (h : PL A sr ss hd ls) (hk : k < 40) (hl : ls k = 0) (ho : oth hd t k 1 = false) : ∀ s', 1 ≤ s' → s' ≠ sr t → hasK (gL A) s' k (gN A) = true → edw (gL A) s' (gN A) = true := by
  obtain ⟨h1, h2, h3, h4, h5, h6, ⟨h7, h8⟩, h9⟩ := h
  intro s' z1 z2 z3
  cases he : edw (gL A) s' (gN A) with
  | true => rfl
  | false =>
    exfalso
    have hall : ∀ x, x < 4 → sr x ≠ s' := fun x hx y => by
      have q := h6 x k hx hk (by omega) (by rw [y]; exact z3)
      have := oth_n ho hx (fun w => z2 (by rw [← y, w]))
      omega
    have := (h7 k hk s' z1).mpr ⟨z3, he, hall⟩
    omega
theorem PL.h1 {t k : Nat} (h : PL A sr ss hd ls) (ht : t < 4) (hk : k < 40) (hn : 1 ≤ hd t k) : ls k = 0 ∧ oth hd t k 2 = false := by
  obtain ⟨h1, h2, h3, h4, h5, h6, ⟨h7, h8⟩, h9⟩ := h
  constructor
  · rcases Nat.eq_zero_or_pos (ls k) with z | z
    · exact z
    · have := h9 t k ht hk (by omega)
      omega
  · refine oth_f (fun u hu hn' => ?_)
    have h4' := h4 u k
    rcases Nat.lt_or_ge (hd u k) 2 with z | z
    · exact z
    · have := h5 u t k hu ht hn' hk (by omega)
      omega
theorem PL.h2 {t k : Nat} (h : PL A sr ss hd ls) (ht : t < 4) (hk : k < 40) (hn : 2 ≤ hd t k) : ls k = 0 ∧ oth hd t k 1 = false := by
  refine ⟨(h.h1 ht hk (by omega)).1, ?_⟩
  obtain ⟨h1, h2, h3, h4, h5, h6, ⟨h7, h8⟩, h9⟩ := h
  refine oth_f (fun u hu hn' => ?_)
  have h4' := h4 t k
  have := h5 t u k ht hu (fun z => hn' z.symm) hk (by omega)
  omega
-- the lock of a loser is met
theorem clr_ok {k : Nat} {ls' : Nat → Nat} (hJ : JJ A ss) (hP : PL A sr ss hd ls) (hk : k < 40) (hB : aClr A ls k = (B, ls')) :
    (ls k ≠ 0 → okRl (ls k) (gN A) A) ∧ (ls k ≠ 0 → rokRl (ls k) (gN A) A) ∧ JJ B ss ∧ PL B sr ss hd ls' ∧ ls' k = 0 ∧ cUc (gL B) (gN B) = cUc (gL A) (gN A) := by
  unfold aClr at hB
  by_cases e : ls k = 0
  · rw [if_pos e] at hB
    cases hB
    exact ⟨fun z => absurd e z, fun z => absurd e z, hJ, hP, e, rfl⟩
  · rw [if_neg e] at hB
    cases hB
    obtain ⟨z1, z2, z3⟩ := (hP.2.2.2.2.2.2.1.1 k hk (ls k) (by omega)).mp rfl
    obtain ⟨r1, r2, r3, r4, r5, r6, r7⟩ := roll_all hJ (by omega) (hP.2.2.2.2.2.2.1.2 k) z2
    refine ⟨fun _ => r2, fun _ => r1, r3, PL_roll hP r4 r5 z3, ?_, r7⟩
    unfold relL
    rw [if_pos rfl]
-- all losers
def nz (ls : Nat → Nat) : Nat → Nat
  | 0 => 0
  | n + 1 => nz ls n + (if ls n = 0 then 0 else 1)
theorem nz_le (ls : Nat → Nat) : ∀ n, nz ls n ≤ n
  | 0 => Nat.le_refl _
  | n + 1 => by
    have := nz_le ls n
    rw [nz]
    split <;> omega
theorem nz_0 : ∀ {n : Nat}, nz ls n = 0 → ∀ k, k < n → ls k = 0
  | 0, _, k, hk => by omega
  | n + 1, h, k, hk => by
    rw [nz] at h
    by_cases e : ls n = 0
    · by_cases e2 : k = n
      · rw [e2]
        exact e
      · exact nz_0 (n := n) (by omega) k (by omega)
    · rw [if_neg e] at h
      omega
theorem nz_rel {s : Nat} : ∀ {n : Nat}, nz (relL ls s) n ≤ nz ls n
  | 0 => Nat.le_refl _
  | n + 1 => by
    have := nz_rel (s := s) (n := n)
    have e : ls n = 0 → relL ls s n = 0 := fun z => by
      unfold relL
      split
      · rfl
      · exact z
    rw [nz, nz]
    by_cases z : ls n = 0
    · rw [if_pos z, if_pos (e z)]
      omega
    · rw [if_neg z]
      split <;> omega
theorem nz_less {s : Nat} (h0 : s ≠ 0) : ∀ {n : Nat}, (∃ k, k < n ∧ ls k = s) → nz (relL ls s) n + 1 ≤ nz ls n
  | 0, h => by
    obtain ⟨k, hk, -⟩ := h
    omega
  | n + 1, h => by
    rw [nz, nz]
    by_cases e : ls n = s
    · have h1 := nz_rel (ls := ls) (s := s) (n := n)
      have h2 : relL ls s n = 0 := by
        unfold relL
        rw [if_pos e]
      rw [if_pos h2, if_neg (by omega)]
      omega
    · obtain ⟨k, hk, h1⟩ := h
      have h2 := nz_less h0 (n := n) ⟨k, by
        have : k ≠ n := fun z => e (by rw [← z]; exact h1)
        omega, h1⟩
      have h3 : relL ls s n = ls n := by
        unfold relL
        rw [if_neg e]
      rw [h3]
      omega
theorem lla_in : ∀ {n : Nat}, lla ls 0 n ≠ 0 → ∃ k, k < n ∧ ls k = lla ls 0 n
  | 0, h => absurd rfl h
  | n + 1, h => by
    have ih := lla_in (n := n)
    rw [lla] at h ⊢
    by_cases e : ls n ≤ 0
    · rw [if_pos e] at h ⊢
      obtain ⟨k, q1, q2⟩ := ih h
      exact ⟨k, by omega, q2⟩
    · rw [if_neg e] at h ⊢
      by_cases e1 : lla ls 0 n = 0
      · rw [if_pos e1]
        exact ⟨n, Nat.lt_succ_self n, rfl⟩
      · rw [if_neg e1] at h ⊢
        by_cases e2 : lla ls 0 n ≤ ls n
        · rw [if_pos e2]
          obtain ⟨k, q1, q2⟩ := ih e1
          exact ⟨k, by omega, q2⟩
        · rw [if_neg e2]
          exact ⟨n, Nat.lt_succ_self n, rfl⟩
theorem sett_ok : ∀ (f : Nat) (A : aSt) (ls : Nat → Nat) (c : Nat), JJ A ss → PL A sr ss hd ls → nz ls 40 ≤ f → rokSe sr ss f A ls ∧ okSe f A ls ∧ JJ (aSettL f A ls c).1 ss ∧ PL (aSettL f A ls c).1 sr ss hd (aSettL f A ls c).2.1 ∧ cUc (gL (aSettL f A ls c).1) (gN (aSettL f A ls c).1) = cUc (gL A) (gN A)
  | 0, A, ls, c, hJ, hP, hn => by
    have h0 : lla ls 0 40 = 0 := lla_0 (nz_0 (by omega))
    exact ⟨⟨hJ.1, hP.S hJ, h0⟩, trivial, hJ, hP, rfl⟩
  | f + 1, A, ls, c, hJ, hP, hn => by
    have h512 := hJ.2.2.2.2
    have e1 : rokSe sr ss (f + 1) A ls = (rG A ∧ lsS A sr ss ls ∧ (lla ls 0 40 ≠ 0 → rokRl (lla ls 0 40) (gN A) A ∧ rokSe sr ss f (aRoll A (lla ls 0 40)).1 (relL ls (lla ls 0 40)))) := rfl
    have e2 : okSe (f + 1) A ls = (lla ls 0 40 ≠ 0 → lla ls 0 40 < 2000 ∧ okRl (lla ls 0 40) (gN A) A ∧ okSe f (aRoll A (lla ls 0 40)).1 (relL ls (lla ls 0 40))) := rfl
    have e3 : aSettL (f + 1) A ls c = if lla ls 0 40 = 0 then (A, ls, c) else aSettL f (aRoll A (lla ls 0 40)).1 (relL ls (lla ls 0 40)) (c + 1) := rfl
    rw [e1, e2, e3]
    by_cases h0 : lla ls 0 40 = 0
    · rw [if_pos h0]
      exact ⟨⟨hJ.1, hP.S hJ, fun z => absurd h0 z⟩, fun z => absurd h0 z, hJ, hP, rfl⟩
    · rw [if_neg h0]
      obtain ⟨k, k1, k2⟩ := lla_in h0
      have hnz := nz_less h0 ⟨k, k1, k2⟩
      generalize lla ls 0 40 = s at *
      obtain ⟨z1, z2, z3⟩ := (hP.2.2.2.2.2.2.1.1 k k1 s (by omega)).mp k2
      have hss := hP.2.2.2.2.2.2.1.2 k
      obtain ⟨r1, r2, r3, r4, r5, r6, r7⟩ := roll_all hJ (by omega) (by omega) z2
      have hP2 := PL_roll hP r4 r5 z3
      have hS := hP.S hJ
      generalize (aRoll A s).1 = B at *
      obtain ⟨i1, i2, i3, i4, i5⟩ := sett_ok f B (relL ls s) (c + 1) r3 hP2 (by omega)
      exact ⟨⟨hJ.1, hS, fun _ => ⟨r1, i1⟩⟩, fun _ => ⟨by omega, r2, i2⟩, i3, i4, i5.trans r7⟩
end PLS
