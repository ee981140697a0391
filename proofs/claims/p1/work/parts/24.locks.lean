/-! The class's locks. -/
def lheld (S : zS) (hd : Nat → Nat → Nat) : Prop := ∀ t k, t < 4 → k < 40 → S 512 t k = nI (hd t k)
def wheld (hd : Nat → Nat → Nat) : Prop := ∀ t k, hd t k ≤ 2
def up2 (hd : Nat → Nat → Nat) (t k v : Nat) : Nat → Nat → Nat := fun t' k' => if t' = t ∧ k' = k then v else hd t' k'
def oth (hd : Nat → Nat → Nat) (t k m : Nat) : Bool := (List.range 4).any (fun u => decide (u ≠ t ∧ m ≤ hd u k))
theorem oth_t {hd : Nat → Nat → Nat} {t k m u : Nat} (hu : u < 4) (h : u ≠ t) (hm : m ≤ hd u k) : oth hd t k m = true := List.any_eq_true.mpr ⟨u, List.mem_range.mpr hu, decide_eq_true ⟨h, hm⟩⟩
theorem oth_f {hd : Nat → Nat → Nat} {t k m : Nat} (h : ∀ u, u < 4 → u ≠ t → hd u k < m) : oth hd t k m = false := by
  cases ho : oth hd t k m with
  | false => rfl
  | true =>
    obtain ⟨u, hu, hd2⟩ := List.any_eq_true.mp ho
    have h1 := of_decide_eq_true hd2
    have h2 := h u (List.mem_range.mp hu) h1.1
    omega
theorem c56 {S : zS} {d t k m : Nat} {hd : Nat → Nat → Nat} (hl : lheld S hd) (hw : wheld hd) (ht : t < 4) (hk : k < 40) (hm : m < 10) : zwp 56 (0, zent 56 [.inr (some (6, 0)), .inl (nI t), .inl (nI k), .inl (nI m)], [], (S, d)) (fun o t' => o = .inl (some (.inl (b2i (oth hd t k m)))) ∧ t' = (S, d)) := by
  have key : ∀ n i : Nat, i + n = 4 → (∀ u, u < i → u ≠ t → hd u k < m) → zwp 56 (3, [some (.inr (some (6, 0))), some (.inl (nI t)), some (.inl (nI k)), some (.inl (nI m)), some (.inl (nI i))], [], (S, d)) (fun o t' => o = .inl (some (.inl (b2i (oth hd t k m)))) ∧ t' = (S, d)) := by
    intro n
    induction n with
    | zero =>
      intro i hi hj
      refine w56_3 ⟨fun _ => ⟨?_, rfl⟩, fun hlt => ?_⟩
      · rw [oth_f (fun u hu hne => hj u (by omega) hne)]
        rfl
      · rw [nI_le_iff (by omega) (by omega)] at hlt
        omega
    | succ n ih =>
      intro i hi hj
      have h2 := hw i k
      refine w56_3 ⟨fun hge => ?_, fun _ => ⟨fun he => ?_, fun hne => ⟨i, rfl, by omega, k, rfl, hk, fun hlt => ?_, fun hge => ⟨?_, rfl⟩⟩⟩⟩
      · rw [nI_le_iff (by omega) (by omega)] at hge
        omega
      · rw [nI_eq_iff (by omega) (by omega)] at he
        rw [nI_add]
        refine ih (i + 1) (by omega) (fun u hu hut => hj u ?_ hut)
        have : u ≠ i := fun z => hut (by omega)
        omega
      · rw [hl i k (by omega) hk, nI_lt_iff (by omega) (by omega)] at hlt
        rw [nI_add]
        refine ih (i + 1) (by omega) (fun u hu hut => ?_)
        by_cases e : u = i
        · rw [e]
          exact hlt
        · exact hj u (by omega) hut
      · rw [hl i k (by omega) hk, nI_lt_iff (by omega) (by omega)] at hge
        rw [nI_eq_iff (by omega) (by omega)] at hne
        rw [oth_t (u := i) (by omega) hne (by omega)]
        rfl
  exact w56_0 (key 4 0 (by omega) (fun u hu => by omega))
theorem lheld_up {S : zS} {hd : Nat → Nat → Nat} {t k v : Nat} (hl : lheld S hd) : lheld (zu S 512 t k (nI v)) (up2 hd t k v) := by
  intro t' k' ht hk
  unfold zu up2
  by_cases e : t' = t ∧ k' = k
  · rw [if_pos ⟨rfl, e.1, e.2⟩, if_pos e]
  · rw [if_neg (fun z => e ⟨z.2.1, z.2.2⟩), if_neg e]
    exact hl t' k' ht hk
abbrev pheld : Nat → Nat → Prop := fun f _ => f = 512
-- Locks.takeShared, Locks.takeOwn
theorem c54 {S : zS} {d t k : Nat} {hd : Nat → Nat → Nat} (hl : lheld S hd) (hw : wheld hd) (ht : t < 4) (hk : k < 40) : zwp 54 (0, zent 54 [.inr (some (6, 0)), .inl (nI t), .inl (nI k)], [], (S, d)) (fun o t' => (o = .inr 2 ∧ t' = (S, d) ∧ hd t k = 0 ∧ oth hd t k 2 = true) ∨ ∃ S', o = .inl none ∧ t' = (S', d) ∧ zfr S S' pheld ∧ (hd t k = 0 → oth hd t k 2 = false) ∧ lheld S' (if hd t k = 0 then up2 hd t k 1 else hd)) := by
  have h2 := hw t k
  refine w54_0 ⟨t, rfl, ht, k, rfl, hk, fun e => zwp_mono (c56 hl hw ht hk (by decide)) (fun o t' h => ?_), fun e => Or.inr ⟨S, rfl, rfl, zfr.rf _ _, ?_⟩⟩
  · rw [hl t k ht hk, ← nI_0, nI_eq_iff (by omega) (by omega)] at e
    obtain ⟨rfl, rfl⟩ := h
    refine w54_19 ⟨fun e2 => ⟨t, rfl, ht, k, rfl, hk, Or.inr ⟨_, rfl, rfl, zfr.up rfl, ?_⟩⟩, fun e2 => Or.inl ⟨rfl, rfl, e, ?_⟩⟩
    · rw [if_pos e]
      exact ⟨fun _ => b2i_0.mp e2, lheld_up hl⟩
    · rw [b2i_0] at e2
      cases ho : oth hd t k 2 with
      | true => rfl
      | false => exact absurd ho e2
  · rw [hl t k ht hk, ← nI_0, nI_eq_iff (by omega) (by omega)] at e
    rw [if_neg e]
    exact ⟨fun z => absurd z e, hl⟩
theorem c55 {S : zS} {d t k : Nat} {hd : Nat → Nat → Nat} (hl : lheld S hd) (hw : wheld hd) (ht : t < 4) (hk : k < 40) : zwp 55 (0, zent 55 [.inr (some (6, 0)), .inl (nI t), .inl (nI k)], [], (S, d)) (fun o t' => (o = .inr 2 ∧ t' = (S, d) ∧ oth hd t k 1 = true) ∨ ∃ S', o = .inl none ∧ t' = (S', d) ∧ zfr S S' pheld ∧ oth hd t k 1 = false ∧ lheld S' (up2 hd t k 2)) := by
  refine w55_0 (zwp_mono (c56 hl hw ht hk (by decide)) (fun o t' h => ?_))
  obtain ⟨rfl, rfl⟩ := h
  refine w55_7 ⟨fun e2 => ⟨t, rfl, ht, k, rfl, hk, Or.inr ⟨_, rfl, rfl, zfr.up rfl, b2i_0.mp e2, lheld_up hl⟩⟩, fun e2 => Or.inl ⟨rfl, rfl, ?_⟩⟩
  rw [b2i_0] at e2
  cases ho : oth hd t k 1 with
  | true => rfl
  | false => exact absurd ho e2
-- Locks.release
theorem c57 {S : zS} {d t : Nat} {hd : Nat → Nat → Nat} (hl : lheld S hd) (ht : t < 4) : zwp 57 (0, zent 57 [.inr (some (6, 0)), .inl (nI t)], [], (S, d)) (fun o t' => ∃ S', o = .inl none ∧ t' = (S', d) ∧ zfr S S' pheld ∧ lheld S' (fun t' k => if t' = t then 0 else hd t' k)) := by
  have key : ∀ (n i : Nat) (S1 : zS), i + n = 40 → zfr S S1 pheld → (∀ t' k, S1 512 t' k = if t' = t ∧ k < i then nI 0 else S 512 t' k) → zwp 57 (2, [some (.inr (some (6, 0))), some (.inl (nI t)), some (.inl (nI i))], [], (S1, d)) (fun o t' => ∃ S', o = .inl none ∧ t' = (S', d) ∧ zfr S S' pheld ∧ lheld S' (fun t' k => if t' = t then 0 else hd t' k)) := by
    intro n
    induction n with
    | zero =>
      intro i S1 hi h1 h2
      refine w57_2 ⟨fun _ => ⟨S1, rfl, rfl, h1, fun t' k ht' hk => ?_⟩, fun hlt => ?_⟩
      · rw [h2]
        show _ = nI (if t' = t then 0 else hd t' k)
        by_cases e : t' = t
        · rw [if_pos ⟨e, by omega⟩, if_pos e]
        · rw [if_neg (fun z => e z.1), if_neg e]
          exact hl t' k ht' hk
      · rw [nI_le_iff (by omega) (by omega)] at hlt
        omega
    | succ n ih =>
      intro i S1 hi h1 h2
      refine w57_2 ⟨fun hge => ?_, fun _ => ⟨t, rfl, ht, i, rfl, by omega, ?_⟩⟩
      · rw [nI_le_iff (by omega) (by omega)] at hge
        omega
      · rw [nI_add]
        refine ih (i + 1) _ (by omega) (h1.tr (zfr.up (P := pheld) rfl) (fun f q z => z.elim id id)) (fun t' k => ?_)
        unfold zu
        by_cases e : t' = t ∧ k = i
        · rw [if_pos ⟨rfl, e.1, e.2⟩, if_pos (by omega)]
        · rw [if_neg (fun z => e z.2), h2]
          by_cases e2 : t' = t ∧ k < i
          · rw [if_pos e2, if_pos (by omega)]
          · rw [if_neg e2, if_neg (by omega)]
  exact w57_0 (key 40 0 S (by omega) (zfr.rf _ _) (fun t' k => by rw [if_neg (by omega)]))
-- the losers by key
def llos (S : zS) (ls : Nat → Nat) : Prop := ∀ k, k < 40 → S 576 0 k = nI (ls k)
def wlos (ls : Nat → Nat) : Prop := ∀ k, ls k < 2000
abbrev plos : Nat → Nat → Prop := fun f _ => f = 576
theorem c58 {S : zS} {d : Nat} : zwp 58 (0, zent 58 [.inr (some (6, 0))], [], (S, d)) (fun o t' => ∃ S', o = .inl none ∧ t' = (S', d) ∧ zfr S S' plos ∧ llos S' (fun _ => 0)) := by
  have key : ∀ (n i : Nat) (S1 : zS), i + n = 40 → zfr S S1 plos → (∀ k, k < i → S1 576 0 k = nI 0) → zwp 58 (2, [some (.inr (some (6, 0))), some (.inl (nI i))], [], (S1, d)) (fun o t' => ∃ S', o = .inl none ∧ t' = (S', d) ∧ zfr S S' plos ∧ llos S' (fun _ => 0)) := by
    intro n
    induction n with
    | zero =>
      intro i S1 hi h1 h2
      refine w58_2 ⟨fun _ => ⟨S1, rfl, rfl, h1, fun k hk => h2 k (by omega)⟩, fun hlt => ?_⟩
      rw [nI_le_iff (by omega) (by omega)] at hlt
      omega
    | succ n ih =>
      intro i S1 hi h1 h2
      refine w58_2 ⟨fun hge => ?_, fun _ => ⟨i, rfl, by omega, ?_⟩⟩
      · rw [nI_le_iff (by omega) (by omega)] at hge
        omega
      · rw [nI_add]
        refine ih (i + 1) _ (by omega) (h1.tr (zfr.up (P := plos) rfl) (fun f q z => z.elim id id)) (fun k hk => ?_)
        by_cases e : k = i
        · subst e
          rw [zu_self]
        · rw [zu_j _ _ e]
          exact h2 k (by omega)
  exact w58_0 (key 40 0 S (by omega) (zfr.rf _ _) (fun k hk => by omega))
theorem c59 {S : zS} {d s : Nat} {ls : Nat → Nat} (hl : llos S ls) (hw : wlos ls) (hs : s < 2000) : zwp 59 (0, zent 59 [.inr (some (6, 0)), .inl (nI s)], [], (S, d)) (fun o t' => ∃ S', o = .inl none ∧ t' = (S', d) ∧ zfr S S' plos ∧ llos S' (fun k => if ls k = s then 0 else ls k)) := by
  have key : ∀ (n i : Nat) (S1 : zS), i + n = 40 → zfr S S1 plos → (∀ k, k < 40 → S1 576 0 k = if k < i ∧ ls k = s then nI 0 else S 576 0 k) → zwp 59 (2, [some (.inr (some (6, 0))), some (.inl (nI s)), some (.inl (nI i))], [], (S1, d)) (fun o t' => ∃ S', o = .inl none ∧ t' = (S', d) ∧ zfr S S' plos ∧ llos S' (fun k => if ls k = s then 0 else ls k)) := by
    intro n
    induction n with
    | zero =>
      intro i S1 hi h1 h2
      refine w59_2 ⟨fun _ => ⟨S1, rfl, rfl, h1, fun k hk => ?_⟩, fun hlt => ?_⟩
      · rw [h2 k hk]
        show _ = nI (if ls k = s then 0 else ls k)
        by_cases e : ls k = s
        · rw [if_pos ⟨by omega, e⟩, if_pos e]
        · rw [if_neg (fun z => e z.2), if_neg e]
          exact hl k hk
      · rw [nI_le_iff (by omega) (by omega)] at hlt
        omega
    | succ n ih =>
      intro i S1 hi h1 h2
      have hi2 := hw i
      have hv : S1 576 0 i = nI (ls i) := by rw [h2 i (by omega), if_neg (by omega)]; exact hl i (by omega)
      refine w59_2 ⟨fun hge => ?_, fun _ => ⟨i, rfl, by omega, fun he => ⟨i, rfl, by omega, ?_⟩, fun hne => ?_⟩⟩
      · rw [nI_le_iff (by omega) (by omega)] at hge
        omega
      · rw [hv, nI_eq_iff (by omega) (by omega)] at he
        rw [nI_add]
        refine ih (i + 1) _ (by omega) (h1.tr (zfr.up (P := plos) rfl) (fun f q z => z.elim id id)) (fun k hk => ?_)
        by_cases e : k = i
        · subst e
          rw [zu_self, if_pos ⟨by omega, he⟩]
        · rw [zu_j _ _ e, h2 k hk]
          by_cases e2 : k < i ∧ ls k = s
          · rw [if_pos e2, if_pos (by omega)]
          · rw [if_neg e2, if_neg (by omega)]
      · rw [hv, nI_eq_iff (by omega) (by omega)] at hne
        rw [nI_add]
        refine ih (i + 1) S1 (by omega) h1 (fun k hk => ?_)
        rw [h2 k hk]
        by_cases e2 : k < i ∧ ls k = s
        · rw [if_pos e2, if_pos (by omega)]
        · rw [if_neg e2, if_neg (fun z => ?_)]
          by_cases e3 : k = i
          · rw [e3] at z
            exact hne z.2
          · exact e2 ⟨by omega, z.2⟩
  exact w59_0 (key 40 0 S (by omega) (zfr.rf _ _) (fun k _ => by rw [if_neg (by omega)]))
-- the least loser above s among the first n keys, 0 when there is none
def lla (ls : Nat → Nat) (s : Nat) : Nat → Nat
  | 0 => 0
  | n + 1 => if ls n ≤ s then lla ls s n else if lla ls s n = 0 then ls n else if lla ls s n ≤ ls n then lla ls s n else ls n
theorem lla_lt {ls : Nat → Nat} (hw : wlos ls) (s : Nat) : ∀ n, lla ls s n < 2000
  | 0 => by unfold lla; omega
  | n + 1 => by
    have h1 := lla_lt hw s n
    have h2 := hw n
    unfold lla
    split
    · exact h1
    · split
      · exact h2
      · split
        · exact h1
        · exact h2
theorem c60 {S : zS} {d s : Nat} {ls : Nat → Nat} (hl : llos S ls) (hw : wlos ls) (hs : s < 2000) : zwp 60 (0, zent 60 [.inr (some (6, 0)), .inl (nI s)], [], (S, d)) (fun o t' => o = .inl (some (.inl (nI (lla ls s 40)))) ∧ t' = (S, d)) := by
  have key : ∀ (n i : Nat) (x : Option zV), i + n = 40 → zwp 60 (4, [some (.inr (some (6, 0))), some (.inl (nI s)), some (.inl (nI (lla ls s i))), some (.inl (nI i)), x], [], (S, d)) (fun o t' => o = .inl (some (.inl (nI (lla ls s 40)))) ∧ t' = (S, d)) := by
    intro n
    induction n with
    | zero =>
      intro i x hi
      refine w60_4 ⟨fun _ => ⟨by rw [show i = 40 by omega], rfl⟩, fun hlt => ?_⟩
      rw [nI_le_iff (by omega) (by omega)] at hlt
      omega
    | succ n ih =>
      intro i x hi
      have h1 := lla_lt hw s i
      have h2 := hw i
      have hv := hl i (by omega)
      refine w60_4 ⟨fun hge => ?_, fun _ => ⟨i, rfl, by omega, fun hle => ?_, fun hnle => ⟨fun h0 => ?_, fun hn0 => ⟨fun hle2 => ?_, fun hnle2 => ?_⟩⟩⟩⟩
      · rw [nI_le_iff (by omega) (by omega)] at hge
        omega
      · rw [hv, nI_le_iff (by omega) (by omega)] at hle
        rw [nI_add]
        have e : lla ls s (i + 1) = lla ls s i := by rw [lla, if_pos hle]
        have := ih (i + 1) (some (.inl (S 576 0 i))) (by omega)
        rwa [e] at this
      · rw [hv, nI_le_iff (by omega) (by omega)] at hnle
        rw [← nI_0, nI_eq_iff (by omega) (by omega)] at h0
        rw [nI_add]
        have e : lla ls s (i + 1) = ls i := by rw [lla, if_neg hnle, if_pos h0]
        have := ih (i + 1) (some (.inl (S 576 0 i))) (by omega)
        rw [e] at this
        rw [hv] at this ⊢
        exact this
      · rw [hv, nI_le_iff (by omega) (by omega)] at hnle
        rw [← nI_0, nI_eq_iff (by omega) (by omega)] at hn0
        rw [hv, nI_le_iff (by omega) (by omega)] at hle2
        rw [nI_add]
        have e : lla ls s (i + 1) = lla ls s i := by rw [lla, if_neg hnle, if_neg hn0, if_pos hle2]
        have := ih (i + 1) (some (.inl (S 576 0 i))) (by omega)
        rwa [e] at this
      · rw [hv, nI_le_iff (by omega) (by omega)] at hnle
        rw [← nI_0, nI_eq_iff (by omega) (by omega)] at hn0
        rw [hv, nI_le_iff (by omega) (by omega)] at hnle2
        rw [nI_add]
        have e : lla ls s (i + 1) = ls i := by rw [lla, if_neg hnle, if_neg hn0, if_neg hnle2]
        have := ih (i + 1) (some (.inl (S 576 0 i))) (by omega)
        rw [e] at this
        rw [hv] at this ⊢
        exact this
  exact w60_0 (key 40 0 none (by omega))
-- Locks.countLosers
def ccl (ls : Nat → Nat) : Nat → Nat → Nat
  | 0, _ => 0
  | f + 1, s => if s = 0 then 0 else ccl ls f (lla ls s 40) + 1
theorem ccl_le (ls : Nat → Nat) : ∀ f s, ccl ls f s ≤ f
  | 0, _ => Nat.le_refl _
  | f + 1, s => by
    have := ccl_le ls f (lla ls s 40)
    unfold ccl
    split
    · omega
    · omega
theorem c61 {S : zS} {d : Nat} {ls : Nat → Nat} (hl : llos S ls) (hw : wlos ls) : zwp 61 (0, zent 61 [.inr (some (6, 0))], [], (S, d)) (fun o t' => o = .inl (some (.inl (nI (ccl ls 40 (lla ls 0 40))))) ∧ t' = (S, d)) := by
  have key : ∀ (n i s : Nat), i + n = 40 → s < 2000 → i + ccl ls n s = ccl ls 40 (lla ls 0 40) → zwp 61 (8, [some (.inr (some (6, 0))), some (.inl (nI i)), some (.inl (nI s))], [], (S, d)) (fun o t' => o = .inl (some (.inl (nI (ccl ls 40 (lla ls 0 40))))) ∧ t' = (S, d)) := by
    intro n
    induction n with
    | zero =>
      intro i s hi hs he
      refine w61_8 ⟨fun _ => ⟨?_, rfl⟩, fun hlt => ?_⟩
      · have e0 : ccl ls 0 s = 0 := rfl
        rw [e0] at he
        rw [← he]
        rfl
      · rw [nI_le_iff (by omega) (by omega)] at hlt
        omega
    | succ n ih =>
      intro i s hi hs he
      refine w61_8 ⟨fun hge => ?_, fun _ => ⟨fun h0 => ⟨?_, rfl⟩, fun hn0 => zwp_mono (c60 hl hw hs) (fun o t' h => ?_)⟩⟩
      · rw [nI_le_iff (by omega) (by omega)] at hge
        omega
      · rw [← nI_0, nI_eq_iff (by omega) (by omega)] at h0
        rw [ccl, if_pos h0] at he
        rw [← he]
        rfl
      · rw [← nI_0, nI_eq_iff (by omega) (by omega)] at hn0
        obtain ⟨rfl, rfl⟩ := h
        rw [nI_add]
        refine w61_26 (ih (i + 1) _ (by omega) (lla_lt hw _ _) ?_)
        rw [ccl, if_neg hn0] at he
        omega
  refine w61_0 (zwp_mono (c60 hl hw (by decide)) (fun o t' h => ?_))
  obtain ⟨rfl, rfl⟩ := h
  exact w61_7 (key 40 0 _ (by omega) (lla_lt hw _ _) (by omega))
