/-! A crash in the class: the log replayed, stored pages forgotten, the losers found. -/
section CR
variable {S : zS} {d sl : Nat} {lg : Nat → aRec} {N fo : Nat} {im : Nat → Nat} {dm : Nat → Bool} {bk : Nat → Option Nat} {pl : List Nat} {r w e q : Int32}
abbrev pfor (p : Nat) : Nat → Nat → Prop := fun f i => (f = 705 ∨ f = 706 ∨ f = 768 ∨ f = 769 ∨ f = 832 ∨ f = 896) ∧ i = p
theorem c62 {p : Nat} : zwp 62 (0, zent 62 [.inr (some (11, p))], [], (S, d)) (fun o t => ∃ S', o = .inl none ∧ t = (S', d) ∧ zfr S S' (pfor p) ∧ S' 705 p 0 = nI 0 ∧ S' 706 p 0 = nI 0 ∧ lcon S' p (false, [], [])) := by
  refine w62_0 (zwp_mono c64 (fun o t h => ?_))
  obtain ⟨S1, rfl, rfl, f1, h1⟩ := h
  have hk : ∀ f i j, f ≠ 705 → f ≠ 706 → zu (zu S1 705 p 0 (nI 0)) 706 p 0 (nI 0) f i j = S1 f i j := fun f i j q1 q2 => by rw [zu_f _ _ q2, zu_f _ _ q1]
  refine w62_7 ⟨_, rfl, rfl, fun f i j hf => ?_, by rw [zu_f _ _ (by decide), zu_self], zu_self _ _ _ _ _, lcon_congr (fun f j hf => hk f p j (by omega) (by omega)) h1⟩
  by_cases hi : i = p
  · rw [hk f i j (fun z => hf ⟨by omega, hi⟩) (fun z => hf ⟨by omega, hi⟩)]
    exact f1 f i j (fun z => hf ⟨by have := z.1; omega, hi⟩)
  · rw [zu_i _ _ hi, zu_i _ _ hi]
    exact f1 f i j (fun z => hi z.2)
-- what the log tells is the same for more pages forgotten
def lkR (S : zS) (d sl N : Nat) (lg : Nat → aRec) (fo : Nat) (im : Nat → Nat) (dm : Nat → Bool) (bk : Nat → Option Nat) (pl : List Nat) (r w e q : Int32) : Prop := lgx S d lg N fo sl 0 ∧ (∀ p, p < 40 → S 707 p 0 = nI (im p) ∧ S 708 p 0 = b2i (dm p) ∧ S 709 p 0 = oI (bk p)) ∧ lpool S pl ∧ S 8 0 0 = r ∧ S 9 0 0 = w ∧ S 10 0 0 = e ∧ S 11 0 0 = q
theorem lgx_congr {S' : zS} {k : Nat} (h : ∀ f i j, (f = 65 ∨ f = 66 ∨ f = 67 ∨ (192 ≤ f ∧ f < 256 ∧ (f = 198 → i ≤ k))) → S' f i j = S f i j) (hl : lgx S d lg N fo sl k) : lgx S' d lg N fo sl k := by
  obtain ⟨l1, l2, l3, l4, l5, l6, l7⟩ := hl
  refine ⟨by rw [h 65 0 0 (by simp)]; exact l1, by rw [h 66 0 0 (by simp)]; exact l2, by rw [h 67 0 0 (by simp)]; exact l3, l4, l5, fun m h1 h2 => ?_, fun m h1 h2 => ?_⟩
  · obtain ⟨a1, a2⟩ := l6 m h1 h2
    exact ⟨lrH_congr (fun f j q1 q2 q3 => h f m j (Or.inr (Or.inr (Or.inr ⟨q1, by omega, fun z => absurd z q3⟩)))) a1, lrB_congr (fun f j q1 q2 => h f m j (Or.inr (Or.inr (Or.inr ⟨by omega, q2, fun z => by omega⟩)))) a2⟩
  · rw [h 198 m 0 (Or.inr (Or.inr (Or.inr ⟨by decide, by decide, fun _ => h2⟩)))]
    exact l7 m h1 h2
def pleg (lg : Nat → aRec) (n : Nat) : Prop := ∀ k, k < n → wrec (lg (k + 1)) (k + 1) ∧ (rK (lg (k + 1)) < 6 → legal (lg (k + 1)) (con lg (rP (lg (k + 1))) k))
theorem pleg_con {n : Nat} (h : pleg lg n) (p : Nat) : ∀ k, k ≤ n → wcon (con lg p k) := by
  intro k
  induction k with
  | zero =>
    intro _
    show wcon (false, [], [])
    exact ⟨by decide, fun h hh => (by cases hh), by decide, fun h => (by cases h)⟩
  | succ k ih =>
    intro hk
    rw [con]
    by_cases hp : isPg p (lg (k + 1)) = true
    · rw [if_pos hp]
      have hp' := of_decide_eq_true hp
      have hleg := (h k (by omega)).2 hp'.1
      rw [hp'.2] at hleg
      exact wcon_app (ih (by omega)) hleg (h k (by omega)).1.2.2.2.2.2.1
    · rw [if_neg hp]
      exact ih (by omega)
theorem pleg_rec {n k : Nat} (h : pleg lg n) (h1 : 1 ≤ k) (h2 : k ≤ n) : wrec (lg k) k := by
  have := (h (k - 1) (by omega)).1
  rw [show k - 1 + 1 = k by omega] at this
  exact this
theorem c37 (hR : lkR S d sl N lg fo im dm bk pl r w e q) (hN : N ≤ 1144) (hpl : pleg lg N) : zwp 37 (0, zent 37 [.inr (some (0, 0))], [], (S, d)) (fun o t => ∃ S', o = .inl none ∧ t = (S', d) ∧ lkC S' d sl (lg, N, fo, im, dm, bk, pl, r, w, e, q) ∧ zkp S S') := by
  -- the records one by one
  have rep : ∀ (m k : Nat) (S1 : zS), k + m = N → lkX S1 d sl N k lg fo im dm bk pl r w e q → zkp S S1 → zwp 37 (30, [some (.inr (some (0, 0))), some (.inl (nI (k + 1)))], [], (S1, d)) (fun o t => ∃ S', o = .inl none ∧ t = (S', d) ∧ lkC S' d sl (lg, N, fo, im, dm, bk, pl, r, w, e, q) ∧ zkp S S') := by
    intro m
    induction m with
    | zero =>
      intro k S1 hk hX hz
      have hk : k = N := by omega
      subst hk
      refine w37_30 ⟨fun _ => ⟨S1, rfl, rfl, lkC_X.mpr hX, hz⟩, fun hn => ?_⟩
      rw [hX.1.1, nI_lt_iff (by omega) (by omega)] at hn
      omega
    | succ m ih =>
      intro k S1 hk hX hz
      have h4 := hX.1.2.2.2.1
      have h5 := hX.1.2.2.2.2.1
      refine w37_30 ⟨fun hn => ?_, fun _ => ⟨k + 1, rfl, by omega, ⟨by omega, by omega⟩, k + 1, rfl, by omega, ⟨by omega, by omega⟩, ?_⟩⟩
      · rw [hX.1.1, nI_lt_iff (by omega) (by omega)] at hn
        omega
      have hk2 : ∀ f i j, ¬ (f = 198 ∧ i = k + 1) → zu S1 198 (k + 1) 0 (nI 0) f i j = S1 f i j := fun f i j h => by
        by_cases hf : f = 198
        · exact zu_i _ _ (fun z => h ⟨hf, z⟩)
        · exact zu_f _ _ hf
      have hX2 : lkX (zu S1 198 (k + 1) 0 (nI 0)) d sl N k lg fo im dm bk pl r w e q := by
        obtain ⟨x1, x2, x3, x4, x5, x6, x7, x8⟩ := hX
        exact ⟨lgx_congr (fun f i j hf => hk2 f i j (by omega)) x1, by rw [hk2 _ _ _ (by omega)]; exact x2, fun p hp => lpg_congr (fun f j hf => hk2 f p j (by omega)) (x3 p hp), lpool_congr (fun f j hf => hk2 f 0 j (by omega)) x4, by rw [hk2 _ _ _ (by omega)]; exact x5, by rw [hk2 _ _ _ (by omega)]; exact x6, by rw [hk2 _ _ _ (by omega)]; exact x7, by rw [hk2 _ _ _ (by omega)]; exact x8⟩
      have hpg : pgs lg k ≤ 40 := pgs_le (fun j q1 q2 => pleg_rec hpl q1 (by omega))
      refine zwp_mono (c32 hX2 (by omega) hN (fun j q1 q2 => pleg_rec hpl q1 (by omega)) (zu_self _ _ _ _ _) (fun h6 => ⟨(hpl k (by omega)).2 h6, pleg_con hpl _ k (by omega)⟩) (by omega)) (fun o t h => ?_)
      obtain ⟨S2, rfl, rfl, g1, g2⟩ := h
      refine w37_67 ?_
      rw [nI_add]
      exact ih (k + 1) S2 (by omega) g1 (hz.tr (fun f i j hf => (g2 f i j hf).trans (hk2 f i j (by omega))))
  -- the pages forget
  have fg : ∀ (m i : Nat) (S1 : zS), i + m = 40 → (∀ f x j, ¬ (f = 705 ∨ f = 706 ∨ f = 768 ∨ f = 769 ∨ f = 832 ∨ f = 896) → S1 f x j = S f x j) → (∀ p, p < i → S1 705 p 0 = nI 0 ∧ S1 706 p 0 = nI 0 ∧ lcon S1 p (false, [], [])) → zwp 37 (2, [some (.inr (some (0, 0))), some (.inl (nI i))], [], (S1, d)) (fun o t => ∃ S', o = .inl none ∧ t = (S', d) ∧ lkC S' d sl (lg, N, fo, im, dm, bk, pl, r, w, e, q) ∧ zkp S S') := by
    intro m
    induction m with
    | zero =>
      intro i S1 hi hf hp
      have hi : i = 40 := by omega
      subst hi
      refine w37_2 ⟨fun _ => ?_, fun hn => absurd (Int32.le_refl _) hn⟩
      have hk : ∀ f x j, f ≠ 4 → ¬ (f = 705 ∨ f = 706 ∨ f = 768 ∨ f = 769 ∨ f = 832 ∨ f = 896) → zu S1 4 0 0 (nI 1) f x j = S f x j := fun f x j q1 q2 => by
        rw [zu_f _ _ q1]
        exact hf f x j q2
      obtain ⟨y1, y2, y3, y4, y5, y6, y7⟩ := hR
      refine rep N 0 _ (by omega) ⟨lgx_congr (fun f x j h => hk f x j (by omega) (by omega)) y1, zu_self _ _ _ _ _, fun p hp4 => ?_, lpool_congr (fun f j h => hk f 0 j (by omega) (by omega)) y3, by rw [hk _ _ _ (by decide) (by decide)]; exact y4, by rw [hk _ _ _ (by decide) (by decide)]; exact y5, by rw [hk _ _ _ (by decide) (by decide)]; exact y6, by rw [hk _ _ _ (by decide) (by decide)]; exact y7⟩ (fun f x j h => hk f x j (by omega) (by omega))
      obtain ⟨b1, b2, b3⟩ := hp p hp4
      obtain ⟨c1, c2, c3⟩ := y2 p hp4
      exact ⟨by rw [zu_f _ _ (by decide)]; exact b1, by rw [zu_f _ _ (by decide)]; exact b2, lcon_congr (fun f j h => zu_f _ _ (by omega)) b3, by rw [hk _ _ _ (by decide) (by decide)]; exact c1, by rw [hk _ _ _ (by decide) (by decide)]; exact c2, by rw [hk _ _ _ (by decide) (by decide)]; exact c3⟩
    | succ m ih =>
      intro i S1 hi hf hp
      refine w37_2 ⟨fun hn => ?_, fun _ => ⟨i, rfl, by omega, zwp_mono c62 (fun o t h => ?_)⟩⟩
      · rw [nI_le_iff (by decide) (by omega)] at hn
        omega
      obtain ⟨S2, rfl, rfl, g1, g2, g3, g4⟩ := h
      refine w37_17 ?_
      rw [nI_add]
      refine ih (i + 1) S2 (by omega) (fun f x j h => (g1 f x j (fun z => h z.1)).trans (hf f x j h)) (fun p hp2 => ?_)
      by_cases hpi : p = i
      · subst hpi
        exact ⟨g2, g3, g4⟩
      · obtain ⟨b1, b2, b3⟩ := hp p (by omega)
        have hk : ∀ f j, S2 f p j = S1 f p j := fun f j => g1 f p j (fun z => hpi z.2)
        exact ⟨by rw [hk]; exact b1, by rw [hk]; exact b2, lcon_congr (fun f j _ => hk f j) b3⟩
  exact w37_0 (fg 40 0 S (by omega) (fun _ _ _ _ => rfl) (fun p hp => by omega))
end CR
-- the losers by the log
def losOf (lg : Nat → aRec) : Nat → Nat → Nat
  | 0, _ => 0
  | n + 1, k => if rK (lg (n + 1)) = 1 ∨ rK (lg (n + 1)) = 2 then (if k = rY (lg (n + 1)) then rW (lg (n + 1)) else losOf lg n k) else if 6 ≤ rK (lg (n + 1)) then (if losOf lg n k = rW (lg (n + 1)) then 0 else losOf lg n k) else losOf lg n k
theorem losOf_lt {lg : Nat → aRec} : ∀ {n : Nat}, (∀ k, 1 ≤ k → k ≤ n → wrec (lg k) k) → ∀ k, losOf lg n k < 2000
  | 0, _, k => by unfold losOf; decide
  | n + 1, h, k => by
    have h1 := losOf_lt (n := n) (fun j q1 q2 => h j q1 (by omega)) k
    have h2 := (h (n + 1) (by omega) (Nat.le_refl _)).2.2.1
    unfold losOf
    split
    · split
      · exact h2
      · exact h1
    · split
      · split
        · decide
        · exact h1
      · exact h1
section FL
variable {S : zS} {d sl : Nat} {lg : Nat → aRec} {n fo : Nat}
theorem c46 {m : Nat} {r : aRec} (h : S 193 m 0 = nI (rK r)) (hk : rK r < 8) : zwp 46 (0, zent 46 [.inr (some (3, m))], [], (S, d)) (fun o t => o = .inl (some (.inl (b2i (decide (rK r = 1 ∨ rK r = 2))))) ∧ t = (S, d)) := by
  refine w46_0 ⟨fun h1 => ?_, fun h1 => ⟨fun h2 => ?_, fun h2 => ?_⟩⟩
  · rw [h, nI_eq_iff (by omega) (by decide)] at h1
    rw [decide_eq_true (Or.inl h1)]
    exact ⟨rfl, rfl⟩
  · rw [h, nI_eq_iff (by omega) (by decide)] at h2
    rw [decide_eq_true (Or.inr h2)]
    exact ⟨rfl, rfl⟩
  · rw [h, nI_eq_iff (by omega) (by decide)] at h1 h2
    rw [decide_eq_false (fun z => z.elim h1 h2)]
    exact ⟨rfl, rfl⟩
theorem c38 (hl : llog S d lg n fo sl) (hw : wlog lg n) (hY : ∀ k, 1 ≤ k → k ≤ n → (rK (lg k) = 1 ∨ rK (lg k) = 2) → rY (lg k) < 40) : zwp 38 (0, zent 38 [.inr (some (0, 0))], [], (S, d)) (fun o t => ∃ S', o = .inl none ∧ t = (S', d) ∧ zfr S S' plos ∧ llos S' (losOf lg n)) := by
  have hn := hw.1
  obtain ⟨l1, l2, l3, l4, l5, l6⟩ := hl
  have key : ∀ (m k : Nat) (S1 : zS) (x2 : Option zV), k + m = n → zfr S S1 plos → llos S1 (losOf lg k) → zwp 38 (9, [some (.inr (some (0, 0))), some (.inl (nI (k + 1))), x2], [], (S1, d)) (fun o t => ∃ S', o = .inl none ∧ t = (S', d) ∧ zfr S S' plos ∧ llos S' (losOf lg n)) := by
    intro m
    induction m with
    | zero =>
      intro k S1 x2 hk hf hl1
      have hf : ∀ f i j, f ≠ 576 → S1 f i j = S f i j := fun f i j h => hf f i j h
      have hk : k = n := by omega
      subst hk
      refine w38_9 ⟨fun _ => ⟨S1, rfl, rfl, fun f i j h => hf f i j h, hl1⟩, fun hn => ?_⟩
      rw [hf 65 _ _ (by decide), l1, nI_lt_iff (by omega) (by omega)] at hn
      omega
    | succ m ih =>
      intro k S1 x2 hk hf hl1
      have hf : ∀ f i j, f ≠ 576 → S1 f i j = S f i j := fun f i j h => hf f i j h
      obtain ⟨⟨a1, a2, a3, a4, a5, a6, a7⟩, -, aB⟩ := l6 (k + 1) (by omega) (by omega)
      obtain ⟨b1, b2, b3, b4, b5, b6, b7⟩ := hw.2 (k + 1) (by omega) (by omega)
      have hlos := losOf_lt (lg := lg) (n := k) (fun j q1 q2 => hw.2 j q1 (by omega))
      have nxt : ∀ (S2 : zS), zfr S S2 plos → llos S2 (losOf lg (k + 1)) → zwp 38 (75, [some (.inr (some (0, 0))), some (.inl (nI (k + 1))), some (.inr (some (3, k + 1)))], [], (S2, d)) (fun o t => ∃ S', o = .inl none ∧ t = (S', d) ∧ zfr S S' plos ∧ llos S' (losOf lg n)) := by
        intro S2 h1 h2
        refine w38_75 ?_
        rw [nI_add]
        exact ih (k + 1) S2 _ (by omega) h1 h2
      refine w38_9 ⟨fun hn => ?_, fun _ => ⟨k + 1, rfl, by omega, ⟨by omega, by omega⟩, zwp_mono (c46 (r := lg (k + 1)) (by rw [hf 193 _ _ (by decide)]; exact a2) b1) (fun o t h => ?_)⟩⟩
      · rw [hf 65 _ _ (by decide), l1, nI_lt_iff (by omega) (by omega)] at hn
        omega
      obtain ⟨rfl, rfl⟩ := h
      refine w38_34 ⟨fun h0 => ?_, fun h0 => ?_⟩
      · rw [b2i_0] at h0
        have h0 := of_decide_eq_false h0
        refine ⟨fun h6 => ?_, fun h6 => ?_⟩
        · rw [hf 194 _ _ (by decide), a3] at h6
          have h7 : 6 ≤ rK (lg (k + 1)) := by
            by_cases h7 : rK (lg (k + 1)) < 6
            · rw [if_pos h7] at h6
              have := b2 h7
              exact absurd h6 (nI_ne_m1 (by omega))
            · omega
          rw [hf 196 _ _ (by decide), a5]
          refine zwp_mono (c59 hl1 hlos b3) (fun o t h => ?_)
          obtain ⟨S2, rfl, rfl, g1, g2⟩ := h
          refine nxt S2 (fun f i j h => (g1 f i j h).trans (hf f i j h)) ?_
          have e : losOf lg (k + 1) = fun x => if losOf lg k x = rW (lg (k + 1)) then 0 else losOf lg k x := by
            funext x
            rw [losOf, if_neg h0, if_pos h7]
          rw [e]
          exact g2
        · rw [hf 194 _ _ (by decide), a3] at h6
          have h7 : rK (lg (k + 1)) < 6 := by
            by_cases h7 : rK (lg (k + 1)) < 6
            · exact h7
            · rw [if_neg h7] at h6
              exact absurd rfl h6
          refine nxt S1 (fun f i j h => hf f i j h) ?_
          have e : losOf lg (k + 1) = losOf lg k := by
            funext x
            rw [losOf, if_neg h0, if_neg (by omega)]
          rw [e]
          exact hl1
      · rw [b2i_0] at h0
        have h1 : rK (lg (k + 1)) = 1 ∨ rK (lg (k + 1)) = 2 := by
          by_cases h1 : rK (lg (k + 1)) = 1 ∨ rK (lg (k + 1)) = 2
          · exact h1
          · exact absurd (decide_eq_false h1) h0
        have hy := hY (k + 1) (by omega) (by omega) h1
        have h200 : S1 200 (k + 1) 0 = nI (rY (lg (k + 1))) := by
          rw [hf 200 _ _ (by decide)]
          unfold lrB at aB
          rcases h1 with h1 | h1
          · rw [h1] at aB
            exact aB.1
          · rw [h1] at aB
            exact aB.1
        refine ⟨rY (lg (k + 1)), h200, hy, ?_⟩
        rw [hf 196 _ _ (by decide), a5]
        refine nxt _ (fun f i j h => ?_) (fun x hx => ?_)
        · rw [zu_f _ _ h]
          exact hf f i j h
        · rw [losOf, if_pos h1]
          by_cases hx2 : x = rY (lg (k + 1))
          · rw [if_pos hx2, hx2, zu_self]
          · rw [if_neg hx2, zu_j _ _ hx2]
            exact hl1 x hx
  refine w38_0 (zwp_mono c58 (fun o t h => ?_))
  obtain ⟨S1, rfl, rfl, g1, g2⟩ := h
  exact w38_7 (key n 0 S1 none (by omega) g1 g2)
end FL
