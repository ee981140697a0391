/-! The class's contents of a page, continued. -/
theorem zix_in {k : Nat} {l : List Nat} (h : k ∈ l) : zix k l = nI (lidx k l) := by
  unfold zix
  rw [if_pos h]
theorem zix_out {k : Nat} {l : List Nat} (h : k ∉ l) : zix k l = zint (-1) := by
  unfold zix
  rw [if_neg h]
-- Contents.drop
theorem c72 {S : zS} {d p k : Nat} {c : aCon} (hl : lcon S p c) (hw : wcon c) (hb : c.1 = false) (hk : k < 64) (hm : k ∈ c.2.1) : zwp 72 (0, zent 72 [.inr (some (12, p)), .inl (nI k)], [], (S, d)) (fun o t => ∃ S', o = .inl none ∧ t = (S', d) ∧ zfr S S' (pcon p) ∧ lcon S' p (cDrop k c)) := by
  have hn := hw.1
  obtain ⟨hat, -⟩ := lidx_mem hm
  have hts : c.2.2.length = c.2.1.length := by have := hw.2.2.1; rw [hb] at this; simpa using this
  have key : ∀ (n i : Nat) (S1 : zS), lidx k c.2.1 ≤ i → i + n = c.2.1.length - 1 → S1 769 p 0 = nI (c.2.1.length - 1) → S1 768 p 0 = S 768 p 0 → zfr S S1 (pcon p) → (∀ j, S1 832 p j = if lidx k c.2.1 ≤ j ∧ j < i then S 832 p (j + 1) else S 832 p j) → (∀ j, S1 896 p j = if lidx k c.2.1 ≤ j ∧ j < i then S 896 p (j + 1) else S 896 p j) →
      zwp 72 (24, [some (.inr (some (12, p))), some (.inl (nI k)), some (.inl (nI (lidx k c.2.1))), some (.inl (nI i))], [], (S1, d)) (fun o t => ∃ S', o = .inl none ∧ t = (S', d) ∧ zfr S S' (pcon p) ∧ lcon S' p (cDrop k c)) := by
    intro n
    induction n with
    | zero =>
      intro i S1 hi1 hi2 h1 h2 h3 h4 h5
      refine w72_24 ⟨fun _ => ⟨S1, rfl, rfl, h3, by rw [h2]; exact hl.1, ?_, fun j h hj => ?_, fun j w hj => ?_⟩, fun hlt => ?_⟩
      · show S1 769 p 0 = nI (c.2.1.eraseIdx (lidx k c.2.1)).length
        rw [h1, List.length_eraseIdx, if_pos hat]
      · have hj' : (c.2.1.eraseIdx (lidx k c.2.1))[j]? = some h := hj
        have hjl := (List.getElem?_eq_some_iff.mp hj').1
        rw [List.length_eraseIdx, if_pos hat] at hjl
        rw [List.getElem?_eraseIdx] at hj'
        rw [h4 j]
        by_cases e : j < lidx k c.2.1
        · rw [if_pos e] at hj'
          rw [if_neg (by omega)]
          exact hl.2.2.1 j h hj'
        · rw [if_neg e] at hj'
          rw [if_pos (by omega)]
          exact hl.2.2.1 _ h hj'
      · have hj' : (c.2.2.eraseIdx (lidx k c.2.1))[j]? = some w := hj
        have hjl := (List.getElem?_eq_some_iff.mp hj').1
        rw [List.length_eraseIdx, if_pos (by omega)] at hjl
        rw [List.getElem?_eraseIdx] at hj'
        rw [h5 j]
        by_cases e : j < lidx k c.2.1
        · rw [if_pos e] at hj'
          rw [if_neg (by omega)]
          exact hl.2.2.2 j w hj'
        · rw [if_neg e] at hj'
          rw [if_pos (by omega)]
          exact hl.2.2.2 _ w hj'
      · rw [h1, nI_le_iff (by omega) (by omega)] at hlt
        omega
    | succ n ih =>
      intro i S1 hi1 hi2 h1 h2 h3 h4 h5
      refine w72_24 ⟨fun hge => ?_, fun _ => ⟨i + 1, nI_add i 1, by omega, i, rfl, by omega, i + 1, nI_add i 1, by omega, i, rfl, by omega, ?_⟩⟩
      · rw [h1, nI_le_iff (by omega) (by omega)] at hge
        omega
      · rw [nI_add]
        refine ih (i + 1) _ (by omega) (by omega) ?_ ?_ ?_ (fun j => ?_) (fun j => ?_)
        · rw [zu_f _ _ (by decide), zu_f _ _ (by decide)]
          exact h1
        · rw [zu_f _ _ (by decide), zu_f _ _ (by decide)]
          exact h2
        · exact (h3.tr (zfr.up (P := pcon p) ⟨by simp, rfl⟩) (P := pcon p) (fun f q z => z.elim id id)).tr (zfr.up (P := pcon p) ⟨by simp, rfl⟩) (fun f q z => z.elim id id)
        · rw [zu_f _ _ (by decide)]
          by_cases e : j = i
          · subst e
            rw [zu_self, if_pos (by omega), h4, if_neg (by omega)]
          · rw [zu_j _ _ e, h4 j]
            by_cases e2 : lidx k c.2.1 ≤ j ∧ j < i
            · rw [if_pos e2, if_pos (by omega)]
            · rw [if_neg e2, if_neg (by omega)]
        · by_cases e : j = i
          · subst e
            rw [zu_self, if_pos (by omega), h5, if_neg (by omega)]
          · rw [zu_j _ _ e, zu_f _ _ (by decide), h5 j]
            by_cases e2 : lidx k c.2.1 ≤ j ∧ j < i
            · rw [if_pos e2, if_pos (by omega)]
            · rw [if_neg e2, if_neg (by omega)]
  refine w72_0 (zwp_mono (c68 hl hw hk) (fun o t h => ?_))
  obtain ⟨rfl, rfl⟩ := h
  rw [zix_in hm]
  refine w72_5 ⟨fun e => absurd e (nI_ne_m1 (by omega)), fun _ => ?_⟩
  refine key (c.2.1.length - 1 - lidx k c.2.1) (lidx k c.2.1) _ (Nat.le_refl _) (by omega) ?_ ?_ (zfr.up ⟨by simp, rfl⟩) (fun j => ?_) (fun j => ?_)
  · rw [zu_self, hl.2.1, nI_dec (by omega)]
  · rw [zu_f _ _ (by decide)]
  · rw [zu_f _ _ (by decide), if_neg (by omega)]
  · rw [zu_f _ _ (by decide), if_neg (by omega)]
-- Contents.link
theorem c73 {S : zS} {d p sep child behind : Nat} {c : aCon} (hl : lcon S p c) (hw : wcon c) (hb : c.1 = true) (hk : behind < 64) (hm : behind ∈ c.2.1) (h4 : c.2.1.length < 4) : zwp 73 (0, zent 73 [.inr (some (12, p)), .inl (nI sep), .inl (nI child), .inl (nI behind)], [], (S, d)) (fun o t => ∃ S', o = .inl none ∧ t = (S', d) ∧ zfr S S' (pcon p) ∧ lcon S' p (cLink sep child behind c)) := by
  obtain ⟨hat, -⟩ := lidx_mem hm
  have hts : c.2.2.length = c.2.1.length - 1 := by have := hw.2.2.1; rw [hb] at this; simpa using this
  refine w73_0 (zwp_mono (c68 hl hw hk) (fun o t h => ?_))
  obtain ⟨rfl, rfl⟩ := h
  rw [zix_in hm]
  refine w73_5 ⟨fun e => absurd e (nI_ne_m1 (by omega)), fun _ => ⟨fun e => ?_, fun _ => ?_⟩⟩
  · rw [hl.2.1, nI_eq_iff (by omega) (by omega)] at e
    omega
  rw [nI_add]
  refine zwp_mono (s74h (by omega)) (fun o t h => ?_)
  obtain ⟨S1, rfl, rfl, f1, g1⟩ := h
  refine w73_33 (zwp_mono (s74t (by omega)) (fun o t h => ?_))
  obtain ⟨S2, rfl, rfl, f2, g2⟩ := h
  refine w73_42 ⟨_, nI_add _ 1, by omega, _, rfl, by omega, ?_⟩
  have hS2 : ∀ f i j, ¬ (f = 832 ∧ i = p) → ¬ (f = 896 ∧ i = p) → S2 f i j = S f i j := fun f i j h1 h2 => (f2 f i j h2).trans (f1 f i j h1)
  refine ⟨_, rfl, rfl, fun f i j hnp => ?_, ?_, ?_, fun i h hi => ?_, fun i w hi => ?_⟩
  · have q1 : ¬ (f = 832 ∧ i = p) := fun z => hnp ⟨by simp [z.1], z.2⟩
    have q2 : ¬ (f = 896 ∧ i = p) := fun z => hnp ⟨by simp [z.1], z.2⟩
    have q3 : ¬ (f = 769 ∧ i = p ∧ j = 0) := fun z => hnp ⟨by simp [z.1], z.2.1⟩
    unfold zu
    rw [if_neg q3, if_neg (fun z => q2 ⟨z.1, z.2.1⟩), if_neg (fun z => q1 ⟨z.1, z.2.1⟩)]
    exact hS2 f i j q1 q2
  · rw [zu_f _ _ (by decide), zu_f _ _ (by decide), zu_f _ _ (by decide), hS2 _ _ _ (by simp) (by simp)]
    exact hl.1
  · rw [zu_self, hS2 _ _ _ (by simp) (by simp), hl.2.1, nI_add]
    show _ = nI (lins (lidx behind c.2.1 + 1) child c.2.1).length
    rw [lins_len]
  · rw [zu_f _ _ (by decide), zu_f _ _ (by decide)]
    have hi' : (lins (lidx behind c.2.1 + 1) child c.2.1)[i]? = some h := hi
    have hil : i < c.2.1.length + 1 := by have := (List.getElem?_eq_some_iff.mp hi').1; rw [lins_len] at this; exact this
    rw [lins_get (by omega)] at hi'
    by_cases e : i = lidx behind c.2.1 + 1
    · subst e
      rw [if_neg (by omega), if_pos rfl] at hi'
      rw [zu_self, Option.some.inj hi']
    · rw [zu_j _ _ e, f2 _ _ _ (by simp), g1 i]
      by_cases e2 : i < lidx behind c.2.1 + 1
      · rw [if_pos e2] at hi'
        rw [if_neg (by omega)]
        exact hl.2.2.1 i h hi'
      · rw [if_neg e2, if_neg e] at hi'
        rw [if_pos (by omega)]
        exact hl.2.2.1 _ h hi'
  · rw [zu_f _ _ (by decide)]
    have hi' : (lins (lidx behind c.2.1) (nI sep) c.2.2)[i]? = some w := hi
    have hil : i < c.2.2.length + 1 := by have := (List.getElem?_eq_some_iff.mp hi').1; rw [lins_len] at this; exact this
    rw [lins_get (by omega)] at hi'
    by_cases e : i = lidx behind c.2.1
    · subst e
      rw [if_neg (by omega), if_pos rfl] at hi'
      rw [zu_self, Option.some.inj hi']
    · rw [zu_j _ _ e, zu_f _ _ (by decide), g2 i]
      by_cases e2 : i < lidx behind c.2.1
      · rw [if_pos e2] at hi'
        rw [if_neg (by omega), f1 _ _ _ (by simp)]
        exact hl.2.2.2 i w hi'
      · rw [if_neg e2, if_neg e] at hi'
        rw [if_pos (by omega), f1 _ _ _ (by simp)]
        exact hl.2.2.2 _ w hi'
-- Contents.becomeEmptyLeaf
theorem c64 {S : zS} {d p : Nat} : zwp 64 (0, zent 64 [.inr (some (12, p))], [], (S, d)) (fun o t => ∃ S', o = .inl none ∧ t = (S', d) ∧ zfr S S' (pcon p) ∧ lcon S' p (false, [], [])) := by
  refine w64_0 ⟨_, rfl, rfl, (zfr.up (P := pcon p) ⟨by simp, rfl⟩).tr (zfr.up (P := pcon p) ⟨by simp, rfl⟩) (fun f q z => z.elim id id), ?_, ?_, fun i h hi => ?_, fun i w hi => ?_⟩
  · rw [zu_f _ _ (by decide), zu_self]
    rfl
  · rw [zu_self]
    rfl
  · simp at hi
  · simp at hi
-- Contents.becomeWhatBrings: the row n brings c
def lbr (S : zS) (n : Nat) (c : aCon) : Prop := S 204 n 0 = b2i c.1 ∧ ∃ h0 h1 t0, c.2.1 = [h0, h1] ∧ c.2.2[0]? = some t0 ∧ c.2.2.length ≤ 2 ∧ S 200 n 0 = nI h0 ∧ S 201 n 0 = t0 ∧ S 202 n 0 = nI h1 ∧ ∀ t1, c.2.2[1]? = some t1 → S 203 n 0 = t1
theorem c65 {S : zS} {d p n : Nat} {c : aCon} (hr : lbr S n c) : zwp 65 (0, zent 65 [.inr (some (12, p)), .inr (some (3, n))], [], (S, d)) (fun o t => ∃ S', o = .inl none ∧ t = (S', d) ∧ zfr S S' (pcon p) ∧ lcon S' p c) := by
  obtain ⟨r0, h0, h1, t0, r1, r2, r3, r4, r5, r6, r7⟩ := hr
  refine w65_0 ⟨by rw [r0]; exact b2i_01 _, 0, rfl, by decide, 0, rfl, by decide, 1, rfl, by decide, 1, rfl, by decide, ?_⟩
  refine ⟨_, rfl, rfl, fun f i j hnp => ?_, ?_, ?_, fun i h hi => ?_, fun i w hi => ?_⟩
  · have q0 : ¬ (f = 768 ∧ i = p) := fun z => hnp ⟨by simp [z.1], z.2⟩
    have q1 : ¬ (f = 832 ∧ i = p) := fun z => hnp ⟨by simp [z.1], z.2⟩
    have q2 : ¬ (f = 896 ∧ i = p) := fun z => hnp ⟨by simp [z.1], z.2⟩
    have q3 : ¬ (f = 769 ∧ i = p) := fun z => hnp ⟨by simp [z.1], z.2⟩
    have w : ∀ (S1 : zS) (g j1 : Nat) (v : Int32), ¬ (f = g ∧ i = p) → zu S1 g p j1 v f i j = S1 f i j := fun S1 g j1 v hq => by
      unfold zu
      rw [if_neg (fun z => hq ⟨z.1, z.2.1⟩)]
    rw [w _ _ _ _ q2, w _ _ _ _ q1, w _ _ _ _ q2, w _ _ _ _ q1, w _ _ _ _ q3, w _ _ _ _ q0]
  · rw [zu_f _ _ (by decide), zu_f _ _ (by decide), zu_f _ _ (by decide), zu_f _ _ (by decide), zu_f _ _ (by decide), zu_self]
    exact r0
  · rw [zu_f _ _ (by decide), zu_f _ _ (by decide), zu_f _ _ (by decide), zu_f _ _ (by decide), zu_self, r1]
    rfl
  · rw [r1] at hi
    rw [zu_f _ _ (by decide)]
    match i, hi with
    | 0, hi =>
      rw [zu_j _ _ (by decide), zu_f _ _ (by decide), zu_self, r4]
      exact congrArg nI (Option.some.inj hi)
    | 1, hi =>
      rw [zu_self, r6]
      exact congrArg nI (Option.some.inj hi)
    | i + 2, hi => simp at hi
  · have hil := (List.getElem?_eq_some_iff.mp hi).1
    match i, hi, hil with
    | 0, hi, _ =>
      rw [zu_j _ _ (by decide), zu_f _ _ (by decide), zu_self, r5]
      rw [r2] at hi
      exact Option.some.inj hi
    | 1, hi, _ =>
      rw [zu_self]
      exact r7 w hi
    | i + 2, _, hil => omega
