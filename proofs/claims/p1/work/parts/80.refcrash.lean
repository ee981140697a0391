/-! The reference: crash. -/
section RCR
variable {S : zS} {d ck : Nat} {lg : Nat → aRec} {n fo : Nat} {im : Nat → Nat} {dm : Nat → Bool} {bk : Nat → Option Nat} {pl : List Nat} {r w e q : Int32}
-- formats and pages counted anew
theorem r116a {Q : zO → zT → Prop} {S0 : zS} (hrec : ∀ k, 1 ≤ k → k ≤ fo → mH S0 k (lg k)) (hw : wlog lg fo) (hS : S0 1025 0 0 = nI fo) (kk : ∀ S1 : zS, (∀ f i j, f ≠ 1036 → f ≠ 1038 → S1 f i j = S0 f i j) → S1 1036 0 0 = nI (fmts lg fo) → S1 1038 0 0 = nI (pgs lg fo) → zwp 116 (108, [some (.inr (some (16, 0))), some (.inl (nI 0))], [], (S1, d)) Q) :
    ∀ (m k : Nat) (S1 : zS), k + m = fo → (∀ f i j, f ≠ 1036 → f ≠ 1038 → S1 f i j = S0 f i j) → S1 1036 0 0 = nI (fmts lg k) → S1 1038 0 0 = nI (pgs lg k) → zwp 116 (25, [some (.inr (some (16, 0))), some (.inl (nI (k + 1)))], [], (S1, d)) Q := by
  have hn := hw.1
  intro m
  induction m with
  | zero =>
    intro k S1 hk hf h1 h2
    have hk : k = fo := by omega
    subst hk
    refine w116_25 ⟨fun _ => kk S1 hf h1 h2, fun h => ?_⟩
    rw [hf _ _ _ (by decide) (by decide), hS, nI_lt_iff (by omega) (by omega)] at h
    omega
  | succ m ih =>
    intro k S1 hk hf h1 h2
    obtain ⟨a1, a2, -⟩ := hrec (k + 1) (by omega) (by omega)
    obtain ⟨b1, b2, -⟩ := hw.2 (k + 1) (by omega) (by omega)
    have hpk : pgs lg k ≤ 40 := pgs_le (fun j q1 q2 => hw.2 j q1 (by omega))
    -- the pages
    have pgn : ∀ v : Int32, v = nI (fmts lg (k + 1)) → ∀ y0 y1 : Int32, y1 + y0 = v → zwp 116 (53, [some (.inr (some (16, 0))), some (.inl (nI (k + 1)))], [.inl y0, .inl y1, .inr (some (16, 0))], (S1, d)) Q := by
      intro v hv y0 y1 hy
      have nx : ∀ p : Int32, p = nI (pgs lg (k + 1)) → zwp 116 (25, [some (.inr (some (16, 0))), some (.inl (nI (k + 1) + nI 1))], [], (zu (zu S1 1036 0 0 (y1 + y0)) 1038 0 0 p, d)) Q := by
        intro p hp
        rw [nI_add]
        refine ih (k + 1) _ (by omega) (fun f i j q1 q2 => ?_) ?_ ?_
        · rw [zu_f _ _ q2, zu_f _ _ q1]
          exact hf f i j q1 q2
        · rw [zu_f _ _ (by decide), zu_self, hy, hv]
        · rw [zu_self, hp]
      refine w116_53 ⟨k + 1, rfl, by omega, fun h6 => ?_, fun h6 => ⟨k + 1, rfl, by omega, fun hp => ?_, fun hp => ⟨k + 1, rfl, by omega, ?_⟩⟩⟩
      · rw [hf _ _ _ (by decide) (by decide), a1, nI_le_iff (by decide) (by omega)] at h6
        refine nx _ ?_
        rw [h2, pgs, if_neg (by omega)]
      · rw [hf _ _ _ (by decide) (by decide), a1, nI_le_iff (by decide) (by omega)] at h6
        have h6 : rK (lg (k + 1)) < 6 := by omega
        have := b2 h6
        rw [hf _ _ _ (by decide) (by decide), a2 h6, h2, nI_lt_iff (by omega) (by omega)] at hp
        refine nx _ ?_
        rw [h2, pgs, if_pos h6, Nat.max_eq_left (by omega)]
      · rw [hf _ _ _ (by decide) (by decide), a1, nI_le_iff (by decide) (by omega)] at h6
        have h6 : rK (lg (k + 1)) < 6 := by omega
        have := b2 h6
        rw [hf _ _ _ (by decide) (by decide), a2 h6, h2, nI_lt_iff (by omega) (by omega)] at hp
        refine nx _ ?_
        rw [hf _ _ _ (by decide) (by decide), a2 h6, nI_add, pgs, if_pos h6, Nat.max_eq_right (by omega)]
    refine w116_25 ⟨fun h => ?_, fun _ => ⟨k + 1, rfl, by omega, fun h3 => ?_, fun h3 => ?_⟩⟩
    · rw [hf _ _ _ (by decide) (by decide), hS, nI_lt_iff (by omega) (by omega)] at h
      omega
    · rw [hf _ _ _ (by decide) (by decide), a1, nI_eq_iff (by omega) (by decide)] at h3
      refine pgn _ rfl _ _ ?_
      rw [h1, nI_add, fmts, if_pos h3]
    · rw [hf _ _ _ (by decide) (by decide), a1, nI_eq_iff (by omega) (by decide)] at h3
      refine pgn _ rfl _ _ ?_
      rw [h1, nI_add, fmts, if_neg h3, Nat.add_zero]
-- the pool is empty, pages that are gone
theorem r116b {Q : zO → zT → Prop} {S0 : zS} {M : Nat} (hM : M ≤ 40) (hS : S0 1038 0 0 = nI M) (kk : ∀ S1 : zS, zfr S0 S1 (fun f _ => f = 1728 ∨ f = 1792 ∨ f = 1856) → (∀ p, p < 48 → S1 1728 0 p = nI 0) → (∀ p, p < 48 → S1 1792 0 p = (if p < M then S0 1792 0 p else nI 0) ∧ S1 1856 0 p = (if p < M then S0 1856 0 p else nI 0)) → zwp 116 (151, [some (.inr (some (16, 0))), some (.inl (nI 0))], [], (S1, d)) Q) :
    ∀ (m k : Nat) (S1 : zS), k + m = 48 → zfr S0 S1 (fun f _ => f = 1728 ∨ f = 1792 ∨ f = 1856) → (∀ p, p < k → S1 1728 0 p = nI 0) → (∀ p, p < 48 → S1 1792 0 p = (if p < M ∨ k ≤ p then S0 1792 0 p else nI 0) ∧ S1 1856 0 p = (if p < M ∨ k ≤ p then S0 1856 0 p else nI 0)) → zwp 116 (108, [some (.inr (some (16, 0))), some (.inl (nI k))], [], (S1, d)) Q := by
  intro m
  induction m with
  | zero =>
    intro k S1 hk hf h1 h2
    have hk : k = 48 := by omega
    subst hk
    refine w116_108 ⟨fun _ => kk S1 hf h1 (fun p hp => ?_), fun h => absurd (Int32.le_refl _) h⟩
    obtain ⟨g1, g2⟩ := h2 p hp
    rw [g1, g2]
    by_cases e : p < M
    · rw [if_pos (Or.inl e), if_pos (Or.inl e), if_pos e, if_pos e]
      exact ⟨rfl, rfl⟩
    · have e' : ¬ (p < M ∨ 48 ≤ p) := by omega
      rw [if_neg e', if_neg e', if_neg e, if_neg e]
      exact ⟨rfl, rfl⟩
  | succ m ih =>
    intro k S1 hk hf h1 h2
    have hS1 : S1 1038 0 0 = nI M := (hf 1038 0 0 (show ¬ (1038 = 1728 ∨ 1038 = 1792 ∨ 1038 = 1856) by decide)).trans hS
    refine w116_108 ⟨fun h => ?_, fun _ => ⟨k, rfl, by omega, fun hp => ?_, fun hp => ⟨k, rfl, by omega, k, rfl, by omega, ?_⟩⟩⟩
    · rw [nI_le_iff (by decide) (by omega)] at h
      omega
    · rw [hS1, nI_lt_iff (by omega) (by omega)] at hp
      rw [nI_add]
      refine ih (k + 1) _ (by omega) (fun f i j h => ?_) (fun p hpk => ?_) (fun p hp4 => ?_)
      · rw [zu_f _ _ (fun z => h (Or.inl z))]
        exact hf f i j h
      · by_cases e : p = k
        · rw [e, zu_self]
        · rw [zu_j _ _ e]
          exact h1 p (by omega)
      · rw [zu_f _ _ (by decide), zu_f _ _ (by decide)]
        obtain ⟨g1, g2⟩ := h2 p hp4
        rw [g1, g2]
        by_cases e : p < M ∨ k ≤ p
        · rw [if_pos e, if_pos e, if_pos (by omega), if_pos (by omega)]
          exact ⟨rfl, rfl⟩
        · rw [if_neg e, if_neg e, if_neg (by omega), if_neg (by omega)]
          exact ⟨rfl, rfl⟩
    · rw [hS1, nI_lt_iff (by omega) (by omega)] at hp
      rw [nI_add, nar0]
      refine ih (k + 1) _ (by omega) (fun f i j h => ?_) (fun p hpk => ?_) (fun p hp4 => ?_)
      · rw [zu_f _ _ (fun z => h (Or.inr (Or.inr z))), zu_f _ _ (fun z => h (Or.inr (Or.inl z))), zu_f _ _ (fun z => h (Or.inl z))]
        exact hf f i j h
      · rw [zu_f _ _ (by decide), zu_f _ _ (by decide)]
        by_cases e : p = k
        · rw [e, zu_self]
        · rw [zu_j _ _ e]
          exact h1 p (by omega)
      · obtain ⟨g1, g2⟩ := h2 p hp4
        by_cases e : p = k
        · rw [e, if_neg (by omega), if_neg (by omega)]
          exact ⟨by rw [zu_f _ _ (by decide), zu_self], zu_self _ _ _ _ _⟩
        · refine ⟨?_, ?_⟩
          · rw [zu_f _ _ (by decide), zu_j _ _ e, zu_f _ _ (by decide), g1]
            by_cases e2 : p < M ∨ k ≤ p
            · rw [if_pos e2, if_pos (by omega)]
            · rw [if_neg e2, if_neg (by omega)]
          · rw [zu_j _ _ e, zu_f _ _ (by decide), zu_f _ _ (by decide), g2]
            by_cases e2 : p < M ∨ k ≤ p
            · rw [if_pos e2, if_pos (by omega)]
            · rw [if_neg e2, if_neg (by omega)]
-- the places close
theorem r116c {Q : zO → zT → Prop} {S0 : zS} (kk : ∀ S1 : zS, zfr S0 S1 (fun f _ => f = 2112 ∨ f = 2176) → mser S1 (fun _ => 0) → mhel S1 (fun _ _ => 0) → zwp 117 (0, zent 117 [.inr (some (16, 0))], [], (S1, d)) (zaf 116 171 [some (.inr (some (16, 0))), some (.inl (nI 4))] [] Q)) :
    ∀ (m k : Nat) (S1 : zS), k + m = 4 → zfr S0 S1 (fun f _ => f = 2112 ∨ f = 2176) → (∀ j, j < k → S1 2112 0 j = nI 0) → (∀ j, j < 40 * k → S1 2176 0 j = nI 0) → zwp 116 (151, [some (.inr (some (16, 0))), some (.inl (nI k))], [], (S1, d)) Q := by
  intro m
  induction m with
  | zero =>
    intro k S1 hk hf h1 h2
    have hk : k = 4 := by omega
    subst hk
    exact w116_151 ⟨fun _ => kk S1 hf (fun j hj => h1 j hj) (fun t x ht hx => h2 _ (by omega)), fun h => absurd (Int32.le_refl _) h⟩
  | succ m ih =>
    intro k S1 hk hf h1 h2
    refine w116_151 ⟨fun h => ?_, fun _ => zwp_mono (r103 (by omega)) (fun o t h => ?_)⟩
    · rw [nI_le_iff (by decide) (by omega)] at h
      omega
    obtain ⟨S2, rfl, rfl, g1, g2, g3⟩ := h
    refine w116_161 ?_
    rw [nI_add]
    refine ih (k + 1) S2 (by omega) (fun f i j h => (g1 f i j h).trans (hf f i j h)) (fun j hj => ?_) (fun j hj => ?_)
    · rw [g2 j]
      by_cases e : j = k
      · rw [if_pos e]
      · rw [if_neg e]
        exact h1 j (by omega)
    · rw [g3 j]
      by_cases e : 40 * k ≤ j ∧ j < 40 * k + 40
      · rw [if_pos e]
      · rw [if_neg e]
        exact h2 j (by omega)
theorem r116 {ss : Nat} (hl : lkM S ck (lg, n, fo, im, dm, bk, pl, r, w, e, q)) (hn : n ≤ 1144) (hfo : fo ≤ n) (hw : wlog lg fo) (hbk : ∀ p, pgs lg fo ≤ p → bk p = none) (hss : S 1053 0 0 = nI ss) (hs2 : ss < 1000) :
    zwp 116 (0, zent 116 [.inr (some (16, 0))], [], (S, d)) (fun o t => ∃ S', o = .inl (some (.inl (nI (nlo lg fo (fun _ => 0) ss)))) ∧ t = (S', d) ∧ zfr S S' (fun f i => f = 1024 ∨ pmm f i ∨ f = 2112 ∨ f = 2176) ∧ S' 1024 0 0 = nI 0 ∧ lkM S' ck (aCrash (lg, n, fo, im, dm, bk, pl, r, w, e, q)) ∧ mser S' (fun _ => 0) ∧ mhel S' (fun _ _ => 0)) := by
  obtain ⟨⟨a1, a2, a3, a4⟩, l2, l3, ⟨l4, -⟩, l5, l6, l7, l8⟩ := hl
  have hM := pgs_le hw.2
  refine w116_0 ?_
  rw [a2]
  have f0 : ∀ f i j, f ≠ 1024 → f ≠ 1025 → f ≠ 1036 → f ≠ 1038 → zu (zu (zu (zu S 1024 0 0 (nI 0)) 1025 0 0 (nI fo)) 1036 0 0 (nI 0)) 1038 0 0 (nI 1) f i j = S f i j := fun f i j q1 q2 q3 q4 => by rw [zu_f _ _ q4, zu_f _ _ q3, zu_f _ _ q2, zu_f _ _ q1]
  have g24 : zu (zu (zu (zu S 1024 0 0 (nI 0)) 1025 0 0 (nI fo)) 1036 0 0 (nI 0)) 1038 0 0 (nI 1) 1024 0 0 = nI 0 := by rw [zu_f _ _ (by decide), zu_f _ _ (by decide), zu_f _ _ (by decide), zu_self]
  have g25 : zu (zu (zu (zu S 1024 0 0 (nI 0)) 1025 0 0 (nI fo)) 1036 0 0 (nI 0)) 1038 0 0 (nI 1) 1025 0 0 = nI fo := by rw [zu_f _ _ (by decide), zu_f _ _ (by decide), zu_self]
  have g36 : zu (zu (zu (zu S 1024 0 0 (nI 0)) 1025 0 0 (nI fo)) 1036 0 0 (nI 0)) 1038 0 0 (nI 1) 1036 0 0 = nI 0 := by rw [zu_f _ _ (by decide), zu_self]
  have g38 : zu (zu (zu (zu S 1024 0 0 (nI 0)) 1025 0 0 (nI fo)) 1036 0 0 (nI 0)) 1038 0 0 (nI 1) 1038 0 0 = nI 1 := zu_self _ _ _ _ _
  generalize zu (zu (zu (zu S 1024 0 0 (nI 0)) 1025 0 0 (nI fo)) 1036 0 0 (nI 0)) 1038 0 0 (nI 1) = S0 at f0 g24 g25 g36 g38
  have hrec : ∀ k, 1 ≤ k → k ≤ fo → mH S0 k (lg k) := fun k q1 q2 => mH_congr (fun f j hf _ => f0 f 0 j (by omega) (by omega) (by omega) (by omega)) (a4 k q1 (by omega)).1
  refine r116a (S0 := S0) hrec hw g25 (fun S1 f1 h36 h38 => ?_) fo 0 S0 (by omega) (fun _ _ _ _ _ => rfl) g36 g38
  refine r116b (S0 := S1) hM h38 (fun S2 f2 h28 hpg => ?_) 48 0 S1 (by omega) (fun _ _ _ _ => rfl) (fun p hp => by omega) (fun p hp => ⟨by rw [if_pos (by omega)], by rw [if_pos (by omega)]⟩)
  refine r116c (S0 := S2) (fun S3 f3 h12 h76 => ?_) 4 0 S2 (by omega) (fun _ _ _ _ => rfl) (fun j hj => by omega) (fun j hj => by omega)
  have k3 : ∀ f i j, f ≠ 2112 → f ≠ 2176 → S3 f i j = S2 f i j := fun f i j q1 q2 => f3 f i j (fun z => z.elim q1 q2)
  have k2 : ∀ f i j, f ≠ 1728 → f ≠ 1792 → f ≠ 1856 → S2 f i j = S1 f i j := fun f i j q1 q2 q3 => f2 f i j (fun z => z.elim q1 (fun z => z.elim q2 q3))
  have kS : ∀ f i j, f ≠ 1024 → f ≠ 1025 → f ≠ 1036 → f ≠ 1038 → f ≠ 1728 → f ≠ 1792 → f ≠ 1856 → f ≠ 2112 → f ≠ 2176 → S3 f i j = S f i j := fun f i j q1 q2 q3 q4 q5 q6 q7 q8 q9 => by rw [k3 f i j q8 q9, k2 f i j q5 q6 q7, f1 f i j q3 q4, f0 f i j q1 q2 q3 q4]
  have kS0 : ∀ f i j, f ≠ 1036 → f ≠ 1038 → f ≠ 1728 → f ≠ 1792 → f ≠ 1856 → f ≠ 2112 → f ≠ 2176 → S3 f i j = S0 f i j := fun f i j q3 q4 q5 q6 q7 q8 q9 => by rw [k3 f i j q8 q9, k2 f i j q5 q6 q7, f1 f i j q3 q4]
  have hmlog : mlog S3 lg fo fo := by
    refine ⟨?_, ?_, ?_, fun k q1 q2 => ⟨?_, ?_⟩⟩
    · rw [kS0 _ _ _ (by decide) (by decide) (by decide) (by decide) (by decide) (by decide) (by decide)]
      exact g25
    · rw [kS _ _ _ (by decide) (by decide) (by decide) (by decide) (by decide) (by decide) (by decide) (by decide) (by decide)]
      exact a2
    · rw [k3 _ _ _ (by decide) (by decide), k2 _ _ _ (by decide) (by decide) (by decide)]
      exact h36
    · exact mH_congr (fun f j hf _ => kS f 0 j (by omega) (by omega) (by omega) (by omega) (by omega) (by omega) (by omega) (by omega) (by omega)) (a4 k q1 (by omega)).1
    · exact mB_same (fun f j hf => kS f 0 j (by omega) (by omega) (by omega) (by omega) (by omega) (by omega) (by omega) (by omega) (by omega)) (a4 k q1 (by omega)).2
  have h53 : S3 1053 0 0 = nI ss := by
    rw [kS _ _ _ (by decide) (by decide) (by decide) (by decide) (by decide) (by decide) (by decide) (by decide) (by decide)]
    exact hss
  refine zwp_mono (r117 hmlog hw h12 (fun _ => by decide) h53 hs2) (fun o t h => ?_)
  obtain ⟨rfl, rfl⟩ := h
  refine w116_171 ⟨S3, rfl, rfl, fun f i j hf => ?_, ?_, ?_, h12, h76⟩
  · have z : ¬ (f = 1024 ∨ (f = 1025 ∨ f = 1026 ∨ f = 1036 ∨ f = 1038 ∨ (1043 ≤ f ∧ f ≤ 1047) ∨ (1088 ≤ f ∧ f ≤ 1920)) ∨ f = 2112 ∨ f = 2176) := hf
    exact kS f i j (by omega) (by omega) (by omega) (by omega) (by omega) (by omega) (by omega) (by omega) (by omega)
  · rw [kS0 _ _ _ (by decide) (by decide) (by decide) (by decide) (by decide) (by decide) (by decide)]
    exact g24
  · refine ⟨hmlog, ?_, fun p hp => ?_, ⟨?_, fun _ => 0, fun p hp => ?_, fun _ => Nat.zero_le _, fun p hp => ⟨fun z => absurd z (Nat.lt_irrefl 0), fun z => by cases z⟩, fun i j a b _ ha => by simp at ha⟩, ?_, ?_, ?_, ?_⟩
    · rw [k3 _ _ _ (by decide) (by decide), k2 _ _ _ (by decide) (by decide) (by decide)]
      exact h38
    · obtain ⟨g1, g2⟩ := hpg p hp
      obtain ⟨c1, c2, c3⟩ := l3 p hp
      have e1 : S1 1792 0 p = nI (im p) := by
        rw [f1 _ _ _ (by decide) (by decide), f0 _ _ _ (by decide) (by decide) (by decide) (by decide)]
        exact c1
      have e2 : S1 1856 0 p = b2i (dm p) := by
        rw [f1 _ _ _ (by decide) (by decide), f0 _ _ _ (by decide) (by decide) (by decide) (by decide)]
        exact c2
      have e3 : S3 1920 0 p = oI (bk p) := by
        rw [kS _ _ _ (by decide) (by decide) (by decide) (by decide) (by decide) (by decide) (by decide) (by decide) (by decide)]
        exact c3
      unfold mpg
      dsimp only
      rw [k3 1792 _ _ (by decide) (by decide), k3 1856 _ _ (by decide) (by decide), g1, g2, e1, e2, e3]
      by_cases hpM : p < pgs lg fo
      · rw [if_pos hpM, if_pos hpM, if_pos hpM, if_pos hpM, if_pos hpM]
        exact ⟨rfl, rfl, rfl⟩
      · rw [if_neg hpM, if_neg hpM, if_neg hpM, if_neg hpM, if_neg hpM, hbk p (by omega)]
        exact ⟨rfl, rfl, rfl⟩
    · rw [kS _ _ _ (by decide) (by decide) (by decide) (by decide) (by decide) (by decide) (by decide) (by decide) (by decide)]
      exact l4
    · rw [k3 _ _ _ (by decide) (by decide)]
      exact h28 p hp
    · rw [kS _ _ _ (by decide) (by decide) (by decide) (by decide) (by decide) (by decide) (by decide) (by decide) (by decide)]
      exact l5
    · rw [kS _ _ _ (by decide) (by decide) (by decide) (by decide) (by decide) (by decide) (by decide) (by decide) (by decide)]
      exact l6
    · rw [kS _ _ _ (by decide) (by decide) (by decide) (by decide) (by decide) (by decide) (by decide) (by decide) (by decide)]
      exact l7
    · rw [kS _ _ _ (by decide) (by decide) (by decide) (by decide) (by decide) (by decide) (by decide) (by decide) (by decide)]
      exact l8
end RCR
