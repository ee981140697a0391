/-! The reference: clear, gets, and the calls at an open place. -/
def lkQ (S : zS) (ck : Nat) (A : aSt) (sr : Nat → Nat) (ss : Nat) (hd : Nat → Nat → Nat) : Prop := lkM S ck A ∧ mser S sr ∧ S 1053 0 0 = nI ss ∧ mhel S hd ∧ S 1054 0 0 = nI 0
theorem pmu_n {f i : Nat} (h : f < 1024 ∨ f = 1024 ∨ f = 1053 ∨ f = 2112 ∨ f = 2176) : ¬ pmu f i := fun z => by
  rcases z with (z | z) | z
  · have z : f = 1025 ∨ f = 1026 ∨ f = 1036 ∨ f = 1038 ∨ (1043 ≤ f ∧ f ≤ 1047) ∨ (1088 ≤ f ∧ f ≤ 1920) := z
    omega
  · have z : f = 1048 ∨ f = 1049 ∨ f = 1984 ∨ f = 2048 := z
    omega
  · omega
section LQ
variable {S S' : zS} {ck ck' : Nat} {A B : aSt} {sr : Nat → Nat} {ss : Nat} {hd : Nat → Nat → Nat}
theorem lkQ.mu (h : lkQ S ck A sr ss hd) (h1 : zfr S S' pmu) (h2 : S' 1054 0 0 = nI 0) (h3 : lkM S' ck' B) : lkQ S' ck' B sr ss hd :=
  ⟨h3, fun j hj => (h1 _ _ _ (pmu_n (by omega))).trans (h.2.1 j hj), (h1 _ _ _ (pmu_n (by omega))).trans h.2.2.1, fun t k ht hk => (h1 _ _ _ (pmu_n (by omega))).trans (h.2.2.2.1 t k ht hk), h2⟩
theorem lkQ.ml (h : lkQ S ck A sr ss hd) (h1 : zfr S S' pml) (h3 : lkM S' ck' B) : lkQ S' ck' B sr ss hd :=
  h.mu (fun f i j z => h1 f i j (fun q => z (Or.inl q))) ((h1 1054 0 0 (by show ¬ ((_ ∨ _) ∨ (_ ∨ _)); omega)).trans h.2.2.2.2) h3
theorem lkQ.c {v : Int32} (h : lkQ S ck A sr ss hd) : lkQ (zu S 1024 0 0 v) ck A sr ss hd :=
  ⟨lkM_c h.1, fun j hj => (zu_f _ _ (by decide)).trans (h.2.1 j hj), (zu_f _ _ (by decide)).trans h.2.2.1, fun t k ht hk => (zu_f _ _ (by decide)).trans (h.2.2.2.1 t k ht hk), (zu_f _ _ (by decide)).trans h.2.2.2.2⟩
theorem mkp_u (h : zfr S S' pmu) : mkp S S' := fun f i j hf => h f i j (pmu_n (Or.inl hf))
theorem mkp_l (h : zfr S S' pml) : mkp S S' := mkp_u (fun f i j z => h f i j (fun q => z (Or.inl q)))
theorem pml_c (h : zfr S S' pml) : S' 1024 0 0 = S 1024 0 0 := h _ _ _ (fun z => pmu_n (f := 1024) (i := 0) (by omega) (Or.inl z))
end LQ
def hasK (lg : Nat → aRec) (s k : Nat) : Nat → Bool
  | 0 => false
  | n + 1 => hasK lg s k n || decide ((rK (lg (n + 1)) = 1 ∨ rK (lg (n + 1)) = 2) ∧ rW (lg (n + 1)) = s ∧ rY (lg (n + 1)) = k)
-- who is a loser on a key, in both programs
def lsR (A : aSt) (sr : Nat → Nat) (ss : Nat) (ls : Nat → Nat) : Prop := ∀ k, k < 40 → ls k ≤ ss ∧ ∀ s, 1 ≤ s → s ≤ ss → (hasK (gL A) s k (gN A) && isLo (gL A) (gN A) sr s) = decide (ls k = s)
section R101
variable {Q : zO → zT → Prop} {S : zS} {d ck : Nat} {A : aSt} {sr : Nat → Nat} {ss : Nat} {hd : Nat → Nat → Nat} {k : Nat}
theorem r101S {s : Nat} (hl : lkM S ck A) (hr : rG A) (hs : mser S sr) (hsr : ∀ j, sr j < 2000) (hs2 : s < 2000) (hk : k < 40)
    (kkN : (hasK (gL A) s k (gN A) && isLo (gL A) (gN A) sr s) = false → ∀ x3 x4, zwp 101 (2, [some (.inr (some (16, 0))), some (.inl (nI k)), some (.inl (nI (s + 1))), some (.inl x3), some (.inl x4)], [], (S, d)) Q)
    (kkY : (hasK (gL A) s k (gN A) && isLo (gL A) (gN A) sr s) = true → ∀ x3 x4, zwp 100 (0, zent 100 [.inr (some (16, 0)), .inl (nI s)], [], (S, d)) (zaf 101 90 [some (.inr (some (16, 0))), some (.inl (nI k)), some (.inl (nI s)), some (.inl x3), some (.inl x4)] [] Q)) :
    zwp 101 (15, [some (.inr (some (16, 0))), some (.inl (nI k)), some (.inl (nI s)), some (.inl (nI 0)), some (.inl (nI 1))], [], (S, d)) Q := by
  have hg := hl.log
  have hwl := hr.1.1.log
  have hn := hwl.1
  have key : ∀ (r m : Nat), m + r = gN A → zwp 101 (15, [some (.inr (some (16, 0))), some (.inl (nI k)), some (.inl (nI s)), some (.inl (b2i (hasK (gL A) s k m))), some (.inl (nI (m + 1)))], [], (S, d)) Q := by
    intro r
    induction r with
    | zero =>
      intro m hm
      have hm : m = gN A := by omega
      subst hm
      refine w101_15 ⟨fun _ => ⟨fun h0 => ?_, fun h0 => zwp_mono (r98 hg hwl hs hsr hs2) (fun o t h => ?_)⟩, fun z => absurd ?_ z⟩
      · rw [b2i_0] at h0
        rw [nI_add]
        exact kkN (by rw [h0, Bool.false_and]) _ _
      · obtain ⟨rfl, rfl⟩ := h
        have h1 : hasK (gL A) s k (gN A) = true := by
          cases hb : hasK (gL A) s k (gN A) with
          | true => rfl
          | false => rw [hb] at h0; exact absurd rfl h0
        refine w101_82 ⟨fun z => ?_, fun z => ?_⟩
        · rw [b2i_0] at z
          rw [nI_add]
          exact kkN (by rw [z, Bool.and_false]) _ _
        · have z1 : isLo (gL A) (gN A) sr s = true := by
            cases hb : isLo (gL A) (gN A) sr s with
            | true => rfl
            | false => rw [hb] at z; exact absurd rfl z
          exact kkY (by rw [h1, z1]; rfl) _ _
      · rw [hg.1, nI_lt_iff (by omega) (by omega)]
        omega
    | succ r ih =>
      intro m hm
      have nx := ih (m + 1) (by omega)
      rw [hasK] at nx
      obtain ⟨⟨a1, a2, a3, -⟩, aB⟩ := hg.2.2.2 (m + 1) (by omega) (by omega)
      obtain ⟨b1, -, b3, -, -, b6, -⟩ := hwl.2 (m + 1) (by omega) (by omega)
      have hK0 : rK (gL A (m + 1)) ≠ 0 := fun e => by
        have := (hr.1.2.2.2.1 m (by omega)).2 (by omega)
        unfold legal at this
        rw [e] at this
        exact this
      have no : ¬ ((rK (gL A (m + 1)) = 1 ∨ rK (gL A (m + 1)) = 2) ∧ rW (gL A (m + 1)) = s ∧ rY (gL A (m + 1)) = k) → hasK (gL A) s k m = false → zwp 101 (15, [some (.inr (some (16, 0))), some (.inl (nI k)), some (.inl (nI s)), some (.inl (nI 0)), some (.inl (nI (m + 1) + nI 1))], [], (S, d)) Q := fun z h0 => by
        rw [h0, decide_eq_false z] at nx
        rw [nI_add]
        exact nx
      refine w101_15 ⟨fun z => ?_, fun _ => ⟨fun h0 => ⟨m + 1, rfl, by omega, fun h2 => ?_, fun h2 => ⟨m + 1, rfl, by omega, fun h3 => ⟨m + 1, rfl, by omega, fun h4 => ?_, fun h4 => ?_⟩, fun h3 => ?_⟩⟩, fun h0 => ?_⟩⟩
      · rw [hg.1, nI_lt_iff (by omega) (by omega)] at z
        omega
      · rw [b2i_0] at h0
        rw [a1, nI_lt_iff (by decide) (by omega)] at h2
        exact no (fun z => by omega) h0
      · rw [a1, nI_lt_iff (by decide) (by omega)] at h2
        rw [a3, nI_eq_iff (by omega) (by omega)] at h3
        have hY : S 1280 0 (m + 1) = nI (rY (gL A (m + 1))) := by
          unfold mB at aB
          have hK : rK (gL A (m + 1)) = 1 ∨ rK (gL A (m + 1)) = 2 := by omega
          rcases hK with e | e
          · rw [e] at aB
            exact aB.1
          · rw [e] at aB
            exact aB.1
        rw [hY, nI_eq_iff (by omega) (by omega)] at h4
        rw [decide_eq_true ⟨by omega, h3, h4⟩, Bool.or_true] at nx
        rw [nI_add]
        exact nx
      · rw [b2i_0] at h0
        rw [a1, nI_lt_iff (by decide) (by omega)] at h2
        have hY : S 1280 0 (m + 1) = nI (rY (gL A (m + 1))) := by
          unfold mB at aB
          have hK : rK (gL A (m + 1)) = 1 ∨ rK (gL A (m + 1)) = 2 := by omega
          rcases hK with e | e
          · rw [e] at aB
            exact aB.1
          · rw [e] at aB
            exact aB.1
        rw [hY, nI_eq_iff (by omega) (by omega)] at h4
        exact no (fun z => h4 z.2.2) h0
      · rw [b2i_0] at h0
        rw [a3, nI_eq_iff (by omega) (by omega)] at h3
        exact no (fun z => h3 z.2.1) h0
      · have h1 : hasK (gL A) s k m = true := by
          cases hb : hasK (gL A) s k m with
          | true => rfl
          | false => rw [hb] at h0; exact absurd rfl h0
        rw [h1, Bool.true_or] at nx
        rw [nI_add]
        exact nx
  exact key (gN A) 0 (by omega)
-- no loser from s on
theorem r101N (hl : lkM S ck A) (hr : rG A) (hs : mser S sr) (hsr : ∀ j, sr j < 2000) (hk : k < 40) (hss : S 1053 0 0 = nI ss) (hs2 : ss < 1000) (hQ : Q (.inl none) (S, d)) : ∀ (r s : Nat) (x3 x4 : Option zV), s + r = ss + 1 → (∀ s', s ≤ s' → s' ≤ ss → (hasK (gL A) s' k (gN A) && isLo (gL A) (gN A) sr s') = false) → zwp 101 (2, [some (.inr (some (16, 0))), some (.inl (nI k)), some (.inl (nI s)), x3, x4], [], (S, d)) Q
  | 0, s, x3, x4, hr0, hno => by
    refine w101_2 ⟨fun _ => hQ, fun z => absurd ?_ z⟩
    rw [hss, nI_lt_iff (by omega) (by omega)]
    omega
  | r + 1, s, x3, x4, hr0, hno => by
    refine w101_2 ⟨fun _ => hQ, fun z => ?_⟩
    refine r101S hl hr hs hsr (by omega) hk (fun _ x3 x4 => r101N hl hr hs hsr hk hss hs2 hQ r (s + 1) _ _ (by omega) (fun s' q1 q2 => hno s' (by omega) q2)) (fun z => ?_)
    rw [hno s (Nat.le_refl _) (by omega)] at z
    cases z
theorem r101 {B : aSt} {ls ls' : Nat → Nat} (hq : lkQ S ck A sr ss hd) (hr : rG A) (hsr : ∀ j, sr j < 2000) (hk : k < 40) (hs2 : ss < 1000) (hR : lsR A sr ss ls) (hB : aClr A ls k = (B, ls')) (hok : ls k ≠ 0 → rokRl (ls k) (gN A) A) (hrB : rG B) (hRB : lsR B sr ss ls') (hck : ck + 400 * (1144 - gN A) + 400 < 2 ^ 31)
    (kk : ∀ S' ck', lkQ S' ck' B sr ss hd → zfr S S' pmu → ck' + 400 * gN A ≤ ck + 400 * gN B → Q (.inl none) (S', d)) : zwp 101 (0, zent 101 [.inr (some (16, 0)), .inl (nI k)], [], (S, d)) Q := by
  obtain ⟨h1, h2⟩ := hR k hk
  obtain ⟨g1, g2⟩ := hRB k hk
  unfold aClr at hB
  refine w101_0 ?_
  by_cases h0 : ls k = 0
  · rw [if_pos h0] at hB
    cases hB
    refine r101N hq.1 hr hq.2.1 hsr hk hq.2.2.1 hs2 (kk S ck hq (fun _ _ _ _ => rfl) (Nat.le_refl _)) ss 1 _ _ (by omega) (fun s' q1 q2 => ?_)
    rw [h2 s' q1 q2, h0, decide_eq_false (by omega)]
  · rw [if_neg h0] at hB
    have hok := hok h0
    have e1 : (aRoll A (ls k)).1 = B := congrArg Prod.fst hB
    have e2 : ls' k = 0 := by
      have e3 : relL ls (ls k) = ls' := congrArg Prod.snd hB
      rw [← e3]
      show (if ls k = ls k then 0 else ls k) = 0
      rw [if_pos rfl]
    have lp : ∀ (r s : Nat) (x3 x4 : Option zV), s + r = ls k → 1 ≤ s → zwp 101 (2, [some (.inr (some (16, 0))), some (.inl (nI k)), some (.inl (nI s)), x3, x4], [], (S, d)) Q := by
      intro r
      induction r with
      | zero =>
        intro s x3 x4 hs1 hs3
        refine w101_2 ⟨fun z => ?_, fun _ => ?_⟩
        · rw [hq.2.2.1, nI_lt_iff (by omega) (by omega)] at z
          omega
        refine r101S hq.1 hr hq.2.1 hsr (by omega) hk (fun z => ?_) (fun _ x3 x4 => ?_)
        · rw [h2 s hs3 (by omega), decide_eq_true (by omega)] at z
          cases z
        · have e : s = ls k := by omega
          rw [e]
          refine r100 (by omega) hq.1 hok hq.2.2.2.2 hck (fun S1 ck1 k1 z1 u1 c1 => ?_)
          rw [e1] at k1 c1
          have hq1 := hq.mu z1 u1 k1
          refine w101_90 ?_
          rw [nI_add]
          refine r101N hq1.1 hrB hq1.2.1 hsr hk hq1.2.2.1 hs2 (kk S1 ck1 hq1 z1 c1) (ss - ls k) (ls k + 1) _ _ (by omega) (fun s' q1 q2 => ?_)
          rw [g2 s' (by omega) q2, e2, decide_eq_false (by omega)]
      | succ r ih =>
        intro s x3 x4 hs1 hs3
        refine w101_2 ⟨fun z => ?_, fun _ => ?_⟩
        · rw [hq.2.2.1, nI_lt_iff (by omega) (by omega)] at z
          omega
        refine r101S hq.1 hr hq.2.1 hsr (by omega) hk (fun _ x3 x4 => ih (s + 1) _ _ (by omega) (by omega)) (fun z => ?_)
        rw [h2 s hs3 (by omega), decide_eq_false (by omega)] at z
        cases z
    exact lp (ls k - 1) 1 _ _ (by omega) (Nat.le_refl _)
end R101
theorem up2_same {hd : Nat → Nat → Nat} {t k v : Nat} (h : hd t k = v) : up2 hd t k v = hd := by
  funext t' k'
  unfold up2
  split
  · rename_i e
    rw [e.1, e.2, h]
  · rfl
theorem mhel_up {S : zS} {hd : Nat → Nat → Nat} {t k v : Nat} (h : mhel S hd) (ht : t < 4) (hk : k < 40) : mhel (zu S 2176 0 (40 * t + k) (nI v)) (up2 hd t k v) := by
  intro t' k' ht' hk'
  unfold up2
  by_cases e : t' = t ∧ k' = k
  · rw [if_pos e, e.1, e.2, zu_self]
  · rw [if_neg e, zu_j _ _ (by omega)]
    exact h t' k' ht' hk'
section R102
variable {Q : zO → zT → Prop} {S : zS} {d ck : Nat} {A : aSt} {sr : Nat → Nat} {ss : Nat} {hd : Nat → Nat → Nat} {k t how : Nat}
-- behind the clearing
theorem r102L (hq : lkQ S ck A sr ss hd) (hwh : wheld hd) (ht : t < 4) (hk : k < 40) (hh : how = 1 ∨ how = 2)
    (kkN : oth hd t k (3 - how) = true → Q (.inl (some (.inl (nI 0)))) (S, d))
    (kkY : oth hd t k (3 - how) = false → ∀ S', lkQ S' ck A sr ss (up2 hd t k how) → (∀ f i j, f ≠ 2176 → S' f i j = S f i j) → Q (.inl (some (.inl (nI 1)))) (S', d)) :
    ∀ (r u : Nat) (x5 : Option zV), u + r = 4 → (∀ u', u' < u → u' ≠ t → hd u' k < 3 - how) → zwp 102 (25, [some (.inr (some (16, 0))), some (.inl (nI t)), some (.inl (nI k)), some (.inl (nI how)), some (.inl (nI u)), x5], [], (S, d)) Q
  | 0, u, x5, hu, hno => by
    have hu : u = 4 := by omega
    subst hu
    refine w102_25 ⟨fun _ => ⟨40 * t + k, by rw [nI_mul, nI_add], by omega, ?_⟩, fun z => absurd (Int32.le_refl _) z⟩
    rw [narb (by omega)]
    refine kkY (oth_f hno) _ ⟨?_, fun j hj => (zu_f _ _ (by decide)).trans (hq.2.1 j hj), (zu_f _ _ (by decide)).trans hq.2.2.1, mhel_up hq.2.2.2.1 ht hk, (zu_f _ _ (by decide)).trans hq.2.2.2.2⟩ (fun f i j z => zu_f _ _ z)
    refine lkM_fr (fun f i j h => zu_f _ _ (fun z => ?_)) hq.1
    rw [z] at h
    have h : 2176 = 1025 ∨ 2176 = 1026 ∨ 2176 = 1036 ∨ 2176 = 1038 ∨ (1043 ≤ 2176 ∧ 2176 ≤ 1047) ∨ (1088 ≤ 2176 ∧ 2176 ≤ 1920) := h
    omega
  | r + 1, u, x5, hu, hno => by
    have hv := hq.2.2.2.1 u k (by omega) hk
    have hw := hwh u k
    have nx : (u ≠ t → hd u k < 3 - how) → ∀ x5, zwp 102 (25, [some (.inr (some (16, 0))), some (.inl (nI t)), some (.inl (nI k)), some (.inl (nI how)), some (.inl (nI u + nI 1)), x5], [], (S, d)) Q := by
      intro h x5
      rw [nI_add]
      refine r102L hq hwh ht hk hh kkN kkY r (u + 1) x5 (by omega) (fun u' q1 q2 => ?_)
      by_cases e : u' = u
      · rw [e]
        exact h (by omega)
      · exact hno u' (by omega) q2
    refine w102_25 ⟨fun z => ?_, fun _ => ⟨40 * u + k, by rw [nI_mul, nI_add], by omega, fun z => nx (fun q => ?_) _, fun z => ⟨fun z2 => nx (fun q => ?_) _, fun z2 => ⟨fun z3 => kkN ?_, fun z3 => ⟨fun z4 => kkN ?_, fun z4 => nx (fun q => ?_) _⟩⟩⟩⟩⟩
    · rw [nI_le_iff (by decide) (by omega)] at z
      omega
    · rw [nI_eq_iff (by omega) (by omega)] at z
      omega
    · rw [hv, ← nI_0, nI_le_iff (by omega) (by decide)] at z2
      omega
    · rw [nI_eq_iff (by omega) (by omega)] at z
      rw [hv, nI_eq_iff (by omega) (by decide)] at z3
      exact oth_t (by omega) z (by omega)
    · rw [nI_eq_iff (by omega) (by omega)] at z
      rw [hv, ← nI_0, nI_le_iff (by omega) (by decide)] at z2
      rw [nI_eq_iff (by omega) (by decide)] at z4
      exact oth_t (by omega) z (by omega)
    · rw [hv, nI_eq_iff (by omega) (by decide)] at z3
      rw [nI_eq_iff (by omega) (by decide)] at z4
      omega
theorem r102 {B : aSt} {ls ls' : Nat → Nat} (hq : lkQ S ck A sr ss hd) (hr : rG A) (hsr : ∀ j, sr j < 2000) (hwh : wheld hd) (ht : t < 4) (hk : k < 40) (hs2 : ss < 1000) (hh : how = 1 ∨ how = 2) (hR : lsR A sr ss ls) (hB : aClr A ls k = (B, ls')) (hok : ls k ≠ 0 → rokRl (ls k) (gN A) A) (hrB : rG B) (hRB : lsR B sr ss ls') (hck : ck + 400 * (1144 - gN A) + 400 < 2 ^ 31)
    (kk0 : how ≤ hd t k → Q (.inl (some (.inl (nI 1)))) (S, d))
    (kkN : hd t k < how → oth hd t k (3 - how) = true → ∀ S' ck', lkQ S' ck' B sr ss hd → mkp S S' → ck' + 400 * gN A ≤ ck + 400 * gN B → Q (.inl (some (.inl (nI 0)))) (S', d))
    (kkY : hd t k < how → oth hd t k (3 - how) = false → ∀ S' ck', lkQ S' ck' B sr ss (up2 hd t k how) → mkp S S' → ck' + 400 * gN A ≤ ck + 400 * gN B → Q (.inl (some (.inl (nI 1)))) (S', d)) :
    zwp 102 (0, zent 102 [.inr (some (16, 0)), .inl (nI t), .inl (nI k), .inl (nI how)], [], (S, d)) Q := by
  have hv := hq.2.2.2.1 t k ht hk
  have hw := hwh t k
  refine w102_0 ⟨40 * t + k, by rw [nI_mul, nI_add], by omega, fun z => ?_, fun z => kk0 ?_⟩
  · rw [hv, nI_lt_iff (by omega) (by omega)] at z
    refine r101 hq hr hsr hk hs2 hR hB hok hrB hRB hck (fun S1 ck1 q1 z1 c1 => ?_)
    refine w102_22 (r102L q1 hwh ht hk hh (fun o => kkN z o S1 ck1 q1 (mkp_u z1) c1) (fun o S2 q2 z2 => kkY z o S2 ck1 q2 (mkp.tr (mkp_u z1) (fun f i j hf => z2 f i j (by omega))) c1) 4 0 _ (by omega) (fun u' h => by omega))
  · rw [hv, nI_lt_iff (by omega) (by omega)] at z
    omega
-- ready: place, key, open
theorem r105 {B : aSt} {ls ls' : Nat → Nat} (hq : lkQ S ck A sr ss hd) (hr : rG A) (hsr : ∀ j, sr j < 2000) (hso : sr t ≠ 0) (hwh : wheld hd) (ht : t < 4) (hk : k < 40) (hs2 : ss < 1000) (hh : how = 1 ∨ how = 2) (hR : lsR A sr ss ls) (hB : aClr A ls k = (B, ls')) (hok : ls k ≠ 0 → rokRl (ls k) (gN A) A) (hrB : rG B) (hRB : lsR B sr ss ls') (hck : ck + 400 * (1144 - gN A) + 400 < 2 ^ 31) (h0 : how ≤ hd t k → ls k = 0 ∧ oth hd t k (3 - how) = false)
    (kkN : hd t k < how → oth hd t k (3 - how) = true → ∀ S' ck', lkQ S' ck' B sr ss hd → mkp S S' → ck' + 400 * gN A ≤ ck + 400 * gN B → Q (.inl (some (.inl (nI 2)))) (S', d))
    (kkY : (how ≤ hd t k ∨ oth hd t k (3 - how) = false) → ∀ S' ck', lkQ S' ck' B sr ss (if how ≤ hd t k then hd else up2 hd t k how) → mkp S S' → ck' + 400 * gN A ≤ ck + 400 * gN B → Q (.inl (some (.inl (nI 0)))) (S', d)) :
    zwp 105 (0, zent 105 [.inr (some (16, 0)), .inl (nI t), .inl (nI k), .inl (nI how)], [], (S, d)) Q := by
  refine w105_0 (zwp_mono (r96y ht) (fun o u h => ?_))
  obtain ⟨rfl, rfl⟩ := h
  refine w105_5 ⟨fun z => absurd z i01, fun _ => zwp_mono (r77y (by omega) (by omega) (by decide)) (fun o u h => ?_)⟩
  obtain ⟨rfl, rfl⟩ := h
  refine w105_15 ⟨fun z => absurd z i01, fun _ => ⟨t, rfl, ht, fun z => ?_, fun _ => ?_⟩⟩
  · have := hsr t
    rw [hq.2.1 t ht] at z
    exact absurd z (nI_nle (by omega) (by omega))
  refine r102 hq hr hsr hwh ht hk hs2 hh hR hB hok hrB hRB hck (fun q => ?_) (fun q o S1 ck1 q1 z1 c1 => ?_) (fun q o S1 ck1 q1 z1 c1 => ?_)
  · obtain ⟨h1, h2⟩ := h0 q
    unfold aClr at hB
    rw [if_pos h1] at hB
    cases hB
    refine w105_36 ⟨fun z => absurd z i01, fun _ => kkY (Or.inl q) S ck ?_ (mkp.rf S) (Nat.le_refl _)⟩
    rw [if_pos q]
    exact hq
  · exact w105_36 ⟨fun _ => kkN q o S1 ck1 q1 z1 c1, fun z => absurd i00 z⟩
  · refine w105_36 ⟨fun z => absurd z i01, fun _ => kkY (Or.inr o) S1 ck1 ?_ z1 c1⟩
    rw [if_neg (by omega)]
    exact q1
end R102
