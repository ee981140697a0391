/-! PageKeeper.crash. -/
def aCrash (A : aSt) : aSt := match A with
  | (lg, _, fo, im, dm, bk, _, r, w, e, q) => (lg, fo, fo, (fun p => if p < pgs lg fo then im p else 0), (fun p => if p < pgs lg fo then dm p else false), (fun p => if p < pgs lg fo then bk p else none), [], r, w, e, q)
section CRA
variable {S : zS} {d sl : Nat} {lg : Nat → aRec} {n fo : Nat} {im : Nat → Nat} {dm : Nat → Bool} {bk : Nat → Option Nat} {pl : List Nat} {r w e q : Int32}
-- places close
theorem k10a {Q : zO → zT → Prop} {S0 : zS} {hd : Nat → Nat → Nat} (kk : ∀ S1 : zS, zfr S0 S1 (fun f _ => f = 512 ∨ f = 960) → lheld S1 (fun _ _ => 0) → (∀ j, j < 4 → S1 960 0 j = nI 0) → zwp 37 (0, zent 37 [.inr (some (0, 0))], [], (S1, d)) (zaf 10 36 [some (.inr (some (0, 0))), some (.inl (nI 4))] [] Q)) :
    ∀ (m i : Nat) (S1 : zS), i + m = 4 → zfr S0 S1 (fun f _ => f = 512 ∨ f = 960) → lheld S1 (fun t k => if t < i then 0 else hd t k) → (∀ j, j < i → S1 960 0 j = nI 0) → zwp 10 (16, [some (.inr (some (0, 0))), some (.inl (nI i))], [], (S1, d)) Q := by
  intro m
  induction m with
  | zero =>
    intro i S1 hi hf hl hs
    have hi : i = 4 := by omega
    subst hi
    refine w10_16 ⟨fun _ => kk S1 hf (fun t k ht hk => ?_) hs, fun hn => absurd (Int32.le_refl _) hn⟩
    have := hl t k ht hk
    dsimp only at this
    rw [if_pos ht] at this
    exact this
  | succ m ih =>
    intro i S1 hi hf hl hs
    have hi4 : i < 4 := by omega
    refine w10_16 ⟨fun hn => ?_, fun _ => zwp_mono (c23 hl hi4) (fun o t h => ?_)⟩
    · rw [nI_le_iff (by decide) (by omega)] at hn
      omega
    obtain ⟨S2, rfl, rfl, g1, g2, g3⟩ := h
    refine w10_26 ?_
    rw [nI_add]
    refine ih (i + 1) S2 (by omega) (fun f x j h => (g1 f x j h).trans (hf f x j h)) (fun t k ht hk => ?_) (fun j hj => ?_)
    · rw [g2 t k ht hk]
      dsimp only
      by_cases h1 : t = i
      · rw [if_pos h1, if_pos (by omega)]
      · rw [if_neg h1]
        by_cases h2 : t < i
        · rw [if_pos h2, if_pos (by omega)]
        · rw [if_neg h2, if_neg (by omega)]
    · rw [g3 j]
      by_cases h1 : j = i
      · rw [if_pos h1]
      · rw [if_neg h1]
        exact hs j (by omega)
-- pages that are gone
theorem k10b {Q : zO → zT → Prop} {M : Nat} {S0 : zS} (hM : 1 ≤ M) (kk : ∀ S1 : zS, zfr S0 S1 (fun f i => (f = 707 ∨ f = 708 ∨ f = 709) ∧ M ≤ i) → (∀ p, M ≤ p → p < 40 → S1 707 p 0 = nI 0 ∧ S1 708 p 0 = nI 0 ∧ S1 709 p 0 = zint (-1)) → zwp 38 (0, zent 38 [.inr (some (0, 0))], [], (S1, d)) (zaf 10 66 [some (.inr (some (0, 0))), some (.inl (nI 40))] [] Q)) :
    ∀ (m i : Nat) (S1 : zS), i + m = 40 → M ≤ i → zfr S0 S1 (fun f i => (f = 707 ∨ f = 708 ∨ f = 709) ∧ M ≤ i) → (∀ p, M ≤ p → p < i → S1 707 p 0 = nI 0 ∧ S1 708 p 0 = nI 0 ∧ S1 709 p 0 = zint (-1)) → zwp 10 (41, [some (.inr (some (0, 0))), some (.inl (nI i))], [], (S1, d)) Q := by
  intro m
  induction m with
  | zero =>
    intro i S1 hi hMi hf hp
    have hi : i = 40 := by omega
    subst hi
    exact w10_41 ⟨fun _ => kk S1 hf hp, fun hn => absurd (Int32.le_refl _) hn⟩
  | succ m ih =>
    intro i S1 hi hMi hf hp
    refine w10_41 ⟨fun hn => ?_, fun _ => ⟨i, rfl, by omega, w63_0 ?_⟩⟩
    · rw [nI_le_iff (by decide) (by omega)] at hn
      omega
    refine w10_56 ?_
    rw [nI_add]
    have hk : ∀ f x j, ¬ ((f = 707 ∨ f = 708 ∨ f = 709) ∧ x = i) → zu (zu (zu S1 707 i 0 (nI 0)) 708 i 0 (nI 0)) 709 i 0 (zint (-1)) f x j = S1 f x j := fun f x j h => by
      by_cases hx : x = i
      · rw [zu_f _ _ (fun z => h ⟨by omega, hx⟩), zu_f _ _ (fun z => h ⟨by omega, hx⟩), zu_f _ _ (fun z => h ⟨by omega, hx⟩)]
      · rw [zu_i _ _ hx, zu_i _ _ hx, zu_i _ _ hx]
    refine ih (i + 1) _ (by omega) (by omega) (fun f x j h => (hk f x j (fun z => h ⟨z.1, by omega⟩)).trans (hf f x j h)) (fun p h1 h2 => ?_)
    by_cases hpi : p = i
    · subst hpi
      exact ⟨by rw [zu_f _ _ (by decide), zu_f _ _ (by decide), zu_self], by rw [zu_f _ _ (by decide), zu_self], zu_self _ _ _ _ _⟩
    · obtain ⟨b1, b2, b3⟩ := hp p h1 (by omega)
      exact ⟨by rw [hk _ _ _ (fun z => hpi z.2)]; exact b1, by rw [hk _ _ _ (fun z => hpi z.2)]; exact b2, by rw [hk _ _ _ (fun z => hpi z.2)]; exact b3⟩
-- the rest of the class's state behind a crash
def lzero (S : zS) (lo : Nat → Nat) : Prop := lheld S (fun _ _ => 0) ∧ lser S (fun _ => 0) ∧ llos S lo
theorem k10 {hd : Nat → Nat → Nat} (hl : lkC S d sl (lg, n, fo, im, dm, bk, pl, r, w, e, q)) (hh : lheld S hd) (hfo : fo ≤ n) (hn : n ≤ 1144) (hpl : pleg lg fo) (hY : ∀ k, 1 ≤ k → k ≤ fo → (rK (lg k) = 1 ∨ rK (lg k) = 2) → rY (lg k) < 40) :
    zwp 10 (0, zent 10 [.inr (some (0, 0))], [], (S, d)) (fun o t => ∃ S', o = .inl (some (.inl (nI (ccl (losOf lg fo) 40 (lla (losOf lg fo) 0 40))))) ∧ t = (S', d) ∧ lkC S' d 0 (aCrash (lg, n, fo, im, dm, bk, pl, r, w, e, q)) ∧ lzero S' (losOf lg fo) ∧ zfr S S' (fun f _ => ¬ (f = 6 ∨ f = 7 ∨ 1024 ≤ f))) := by
  obtain ⟨⟨a1, a2, a3, a4, a5, a6⟩, l2, l3, l4, l5, l6, l7, l8⟩ := hl
  have hwl : wlog lg fo := ⟨by omega, fun k q1 q2 => pleg_rec hpl q1 q2⟩
  have hM1 : ∀ k, 1 ≤ pgs lg k := fun k => by
    induction k with
    | zero => exact Nat.le_refl _
    | succ k ih =>
      unfold pgs
      split
      · exact Nat.le_trans ih (Nat.le_max_left _ _)
      · exact ih
  have hM := pgs_le hwl.2
  refine w10_0 (w42_0 ?_)
  rw [a2]
  have f0 : ∀ f i j, f ≠ 65 → f ≠ 67 → zu (zu S 65 0 0 (nI fo)) 67 0 0 (nI 0) f i j = S f i j := fun f i j q1 q2 => by rw [zu_f _ _ q2, zu_f _ _ q1]
  have g65 : zu (zu S 65 0 0 (nI fo)) 67 0 0 (nI 0) 65 0 0 = nI fo := by rw [zu_f _ _ (by decide), zu_self]
  have g67 : zu (zu S 65 0 0 (nI fo)) 67 0 0 (nI 0) 67 0 0 = nI 0 := zu_self _ _ _ _ _
  generalize zu (zu S 65 0 0 (nI fo)) 67 0 0 (nI 0) = S0 at f0 g65 g67
  show zwp 10 (7, _, [], (S0, d)) _
  refine w10_7 (zwp_mono c53 (fun o t h => ?_))
  obtain ⟨S1, rfl, rfl, h1, h2⟩ := h
  have f1 : ∀ f i j, f ≠ 257 → f ≠ 320 → S1 f i j = S0 f i j := fun f i j q1 q2 => h1 f i j (fun z => by rcases z.1 with z | z <;> omega)
  have hh1 : lheld S1 (fun t k => if t < 0 then 0 else hd t k) := fun t k ht hk => by
    dsimp only
    rw [if_neg (by omega), f1 _ _ _ (by decide) (by decide), f0 _ _ _ (by decide) (by decide)]
    exact hh t k ht hk
  refine w10_14 (k10a (S0 := S1) (hd := hd) (fun S2 h3 h4 h5 => ?_) 4 0 S1 (by omega) (fun _ _ _ _ => rfl) hh1 (fun j hj => by omega))
  have f2 : ∀ f i j, f ≠ 512 → f ≠ 960 → S2 f i j = S1 f i j := fun f i j q1 q2 => h3 f i j (fun z => by omega)
  have ff : ∀ f i j, f ≠ 65 → f ≠ 67 → f ≠ 257 → f ≠ 320 → f ≠ 512 → f ≠ 960 → S2 f i j = S f i j := fun f i j q1 q2 q3 q4 q5 q6 => by rw [f2 _ _ _ q5 q6, f1 _ _ _ q3 q4, f0 _ _ _ q1 q2]
  have hR : lkR S2 d 0 fo lg fo im dm bk [] r w e q := by
    refine ⟨⟨?_, ?_, ?_, by omega, a5, fun m q1 q2 => ?_, fun m q1 q2 => by omega⟩, fun p hp => ?_, ?_, ?_, ?_, ?_, ?_⟩
    · rw [f2 _ _ _ (by decide) (by decide), f1 _ _ _ (by decide) (by decide)]
      exact g65
    · rw [ff _ _ _ (by decide) (by decide) (by decide) (by decide) (by decide) (by decide)]
      exact a2
    · rw [f2 _ _ _ (by decide) (by decide), f1 _ _ _ (by decide) (by decide)]
      exact g67
    · obtain ⟨b1, -, b3⟩ := a6 m q1 (by omega)
      exact ⟨lrH_congr (fun f j z1 z2 _ => ff f m j (by omega) (by omega) (by omega) (by omega) (by omega) (by omega)) b1, lrB_congr (fun f j z1 z2 => ff f m j (by omega) (by omega) (by omega) (by omega) (by omega) (by omega)) b3⟩
    · obtain ⟨-, -, -, c4, c5, c6⟩ := l3 p hp
      exact ⟨by rw [ff _ _ _ (by decide) (by decide) (by decide) (by decide) (by decide) (by decide)]; exact c4, by rw [ff _ _ _ (by decide) (by decide) (by decide) (by decide) (by decide) (by decide)]; exact c5, by rw [ff _ _ _ (by decide) (by decide) (by decide) (by decide) (by decide) (by decide)]; exact c6⟩
    · exact lpool_congr (fun f j hf => f2 f 0 j (by omega) (by omega)) h2
    · rw [ff _ _ _ (by decide) (by decide) (by decide) (by decide) (by decide) (by decide)]
      exact l5
    · rw [ff _ _ _ (by decide) (by decide) (by decide) (by decide) (by decide) (by decide)]
      exact l6
    · rw [ff _ _ _ (by decide) (by decide) (by decide) (by decide) (by decide) (by decide)]
      exact l7
    · rw [ff _ _ _ (by decide) (by decide) (by decide) (by decide) (by decide) (by decide)]
      exact l8
  refine zwp_mono (c37 hR (by omega) hpl) (fun o t h => ?_)
  obtain ⟨S3, rfl, rfl, m1, z3⟩ := h
  refine w10_36 ?_
  have hm := m1.m
  rw [show S3 4 0 0 = nI (pgs lg fo) from hm]
  refine k10b (S0 := S3) (hM1 fo) (fun S4 h6 h7 => ?_) (40 - pgs lg fo) (pgs lg fo) S3 (by omega) (Nat.le_refl _) (fun _ _ _ _ => rfl) (fun p q1 q2 => by omega)
  have f4 : ∀ f i j, f ≠ 707 → f ≠ 708 → f ≠ 709 → S4 f i j = S3 f i j := fun f i j q1 q2 q3 => h6 f i j (fun z => by omega)
  have hk4 : lkC S4 d 0 (aCrash (lg, n, fo, im, dm, bk, pl, r, w, e, q)) := by
    obtain ⟨y1, y2, y3, y4, y5, y6, y7, y8⟩ := m1
    refine ⟨llog_congr (fun f i j hf => f4 f i j (by omega) (by omega) (by omega)) (by rw [f4 _ _ _ (by decide) (by decide) (by decide)]; exact y1.2.1) y1, by rw [f4 _ _ _ (by decide) (by decide) (by decide)]; exact y2, fun p hp => ?_, lpool_congr (fun f j hf => f4 f 0 j (by omega) (by omega) (by omega)) y4, by rw [f4 _ _ _ (by decide) (by decide) (by decide)]; exact y5, by rw [f4 _ _ _ (by decide) (by decide) (by decide)]; exact y6, by rw [f4 _ _ _ (by decide) (by decide) (by decide)]; exact y7, by rw [f4 _ _ _ (by decide) (by decide) (by decide)]; exact y8⟩
    obtain ⟨c1, c2, c3, c4, c5, c6⟩ := y3 p hp
    refine ⟨by rw [f4 _ _ _ (by decide) (by decide) (by decide)]; exact c1, by rw [f4 _ _ _ (by decide) (by decide) (by decide)]; exact c2, lcon_congr (fun f j hf => f4 f p j (by omega) (by omega) (by omega)) c3, ?_⟩
    dsimp only
    by_cases hpM : p < pgs lg fo
    · rw [if_pos hpM, if_pos hpM, if_pos hpM]
      have hk : ∀ f, S4 f p 0 = S3 f p 0 := fun f => h6 f p 0 (fun z => by omega)
      exact ⟨by rw [hk]; exact c4, by rw [hk]; exact c5, by rw [hk]; exact c6⟩
    · rw [if_neg hpM, if_neg hpM, if_neg hpM]
      obtain ⟨d1, d2, d3⟩ := h7 p (by omega) hp
      exact ⟨d1, d2, d3⟩
  refine zwp_mono (c38 hk4.1 hwl hY) (fun o t h => ?_)
  obtain ⟨S5, rfl, rfl, h8, h9⟩ := h
  have f5 : ∀ f i j, f ≠ 576 → S5 f i j = S4 f i j := fun f i j h => h8 f i j h
  refine w10_66 (zwp_mono (c61 h9 (losOf_lt hwl.2)) (fun o t h => ?_))
  obtain ⟨rfl, rfl⟩ := h
  refine w10_73 ⟨S5, rfl, rfl, ?_, ⟨fun t k ht hk => ?_, fun j hj => ?_, h9⟩, fun f i j hf => ?_⟩
  · obtain ⟨y1, y2, y3, y4, y5, y6, y7, y8⟩ := hk4
    exact ⟨llog_congr (fun f i j hf => f5 f i j (by omega)) (by rw [f5 _ _ _ (by decide)]; exact y1.2.1) y1, by rw [f5 _ _ _ (by decide)]; exact y2, fun p hp => lpg_congr (fun f j hf => f5 f p j (by omega)) (y3 p hp), lpool_congr (fun f j hf => f5 f 0 j (by omega)) y4, by rw [f5 _ _ _ (by decide)]; exact y5, by rw [f5 _ _ _ (by decide)]; exact y6, by rw [f5 _ _ _ (by decide)]; exact y7, by rw [f5 _ _ _ (by decide)]; exact y8⟩
  · rw [f5 _ _ _ (by decide), f4 _ _ _ (by decide) (by decide) (by decide), z3 512 t k (by simp)]
    exact h4 t k ht hk
  · rw [f5 _ _ _ (by decide), f4 _ _ _ (by decide) (by decide) (by decide), z3 960 0 j (by simp)]
    exact h5 j hj
  · have hf2 : f = 6 ∨ f = 7 ∨ 1024 ≤ f := by
      by_cases z : f = 6 ∨ f = 7 ∨ 1024 ≤ f
      · exact z
      · exact absurd z hf
    rw [f5 _ _ _ (by omega), f4 _ _ _ (by omega) (by omega) (by omega), z3 f i j (by omega), ff _ _ _ (by omega) (by omega) (by omega) (by omega) (by omega) (by omega)]
end CRA
