/-! The reference: wasUndone, rollBack, clear, gets. -/
theorem undn_mono {lg : Nat → aRec} {m a b : Nat} (h : a ≤ b) (ha : undn lg m a = true) : undn lg m b = true := by
  induction b with
  | zero =>
    have : a = 0 := by omega
    rw [this] at ha
    exact ha
  | succ b ih =>
    by_cases e : a = b + 1
    · rw [e] at ha
      exact ha
    · rw [undn, ih (by omega), Bool.or_true]
section R99
variable {S : zS} {d : Nat} {lg : Nat → aRec} {n fo : Nat}
theorem r99 {m : Nat} (hl : mlog S lg n fo) (hw : wlog lg n) (h1 : 1 ≤ m) (hm : m ≤ n) : zwp 99 (0, zent 99 [.inr (some (16, 0)), .inl (nI m)], [], (S, d)) (fun o t => o = .inl (some (.inl (b2i (undn lg m n)))) ∧ t = (S, d)) := by
  have hn := hw.1
  have key : ∀ (r k : Nat), k + 1 + r = n + 1 → undn lg m k = false → zwp 99 (4, [some (.inr (some (16, 0))), some (.inl (nI m)), some (.inl (nI (k + 1)))], [], (S, d)) (fun o t => o = .inl (some (.inl (b2i (undn lg m n)))) ∧ t = (S, d)) := by
    intro r
    induction r with
    | zero =>
      intro k hk hu
      have hk : k = n := by omega
      subst hk
      refine w99_4 ⟨fun _ => ?_, fun z => absurd ?_ z⟩
      · rw [hu]
        exact ⟨rfl, rfl⟩
      · rw [hl.1, nI_lt_iff (by omega) (by omega)]
        omega
    | succ r ih =>
      intro k hk hu
      obtain ⟨⟨-, -, -, a4, -⟩, -⟩ := hl.2.2.2 (k + 1) (by omega) (by omega)
      have b4 := (hw.2 (k + 1) (by omega) (by omega)).2.2.2.1
      refine w99_4 ⟨fun z => ?_, fun _ => ⟨k + 1, rfl, by omega, fun he => ?_, fun he => ?_⟩⟩
      · rw [hl.1, nI_lt_iff (by omega) (by omega)] at z
        omega
      · rw [a4, nI_eq_iff (by omega) (by omega)] at he
        rw [undn_mono (show k + 1 ≤ n by omega) (by rw [undn, decide_eq_true he, Bool.true_or])]
        exact ⟨rfl, rfl⟩
      · rw [a4, nI_eq_iff (by omega) (by omega)] at he
        rw [nI_add]
        exact ih (k + 1) (by omega) (by rw [undn, decide_eq_false he, hu]; rfl)
  refine w99_0 ?_
  rw [nI_add]
  refine key (n - m) m (by omega) ?_
  obtain ⟨m0, rfl⟩ : ∃ m0, m = m0 + 1 := ⟨m - 1, by omega⟩
  have b4 := (hw.2 (m0 + 1) (by omega) hm).2.2.2.1
  rw [undn, decide_eq_false (by omega), undn_far (fun j q1 q2 => (hw.2 j q1 (by omega)).2.2.2.1) (by omega)]
  rfl
end R99
abbrev pmu : Nat → Nat → Prop := fun f i => pml f i ∨ f = 1054
theorem pmu_l {S S1 S2 : zS} (h1 : zfr S S1 pmu) (h2 : zfr S1 S2 pml) : zfr S S2 pmu := fun f i j h => (h2 f i j (fun z => h (Or.inl z))).trans (h1 f i j h)
theorem lkM_u {S : zS} {ck : Nat} {A : aSt} {v : Int32} (hl : lkM S ck A) : lkM (zu S 1054 0 0 v) ck A := lkM_fr (fun f i j h => zu_f _ _ (fun z => by
  rw [z] at h
  have h : 1054 = 1025 ∨ 1054 = 1026 ∨ 1054 = 1036 ∨ 1054 = 1038 ∨ (1043 ≤ 1054 ∧ 1054 ≤ 1047) ∨ (1088 ≤ 1054 ∧ 1054 ≤ 1920) := h
  omega)) hl
theorem pmu_u {S S1 : zS} {v : Int32} (h1 : zfr S S1 pmu) : zfr S (zu S1 1054 0 0 v) pmu := fun f i j h => by
  rw [zu_f _ _ (fun z => h (Or.inr z))]
  exact h1 f i j h
-- what rolling back needs
def rokRl (s : Nat) : Nat → aSt → Prop
  | 0, A => rG A ∧ gN A < 1144
  | n + 1, A => rG A ∧ n + 1 ≤ gN A ∧ (rUn A s (n + 1) = true → rY (gL A (n + 1)) < 40 ∧ (rH (gL A (n + 1)) = true → rokP A (rY (gL A (n + 1)))) ∧ (rH (gL A (n + 1)) = false → (gC (aDown A (rY (gL A (n + 1)))).1 (aDown A (rY (gL A (n + 1)))).2).1 = false ∧ rY (gL A (n + 1)) ∈ (gC (aDown A (rY (gL A (n + 1)))).1 (aDown A (rY (gL A (n + 1)))).2).2.1 ∧ gN A < 1144) ∧ rokRl s n (aUndo A s (n + 1))) ∧ (rUn A s (n + 1) = false → rokRl s n A)
theorem rokRl.r {s n : Nat} {A : aSt} (h : rokRl s n A) : rG A := by
  cases n with
  | zero => exact h.1
  | succ n => exact h.1
theorem undo_n {A : aSt} {s m : Nat} (h : rG A) (h1 : rH (gL A m) = true → rokP A (rY (gL A m))) (h2 : rH (gL A m) = false → rY (gL A m) ∈ (gC (aDown A (rY (gL A m))).1 (aDown A (rY (gL A m))).2).2.1) : gN A + 1 ≤ gN (aUndo A s m) := by
  unfold aUndo
  cases hb : rH (gL A m) with
  | true =>
    rw [if_pos rfl]
    have := (putP_k h (h1 hb)).2.2.2.2
    show gN A + 1 ≤ gN (aSet (aPutP A (rY (gL A m))) s (rY (gL A m)) (rB (gL A m)) m)
    unfold aSet
    rw [log_add.2]
    omega
  | false =>
    rw [if_neg (by decide)]
    have h5 := (aDown_k (key := rY (gL A m)) h).2.2.2.2
    unfold aTake
    rw [if_pos (h2 hb)]
    show gN A + 1 ≤ gN (aAdd (aDown A (rY (gL A m))).1 _)
    rw [log_add.2]
    omega
theorem rEnd {S S2 : zS} {ck K s : Nat} {A : aSt} (hl : lkM S ck A) (h : rG A) (hK : K = 6 ∨ K = 7) (hs : s < 2000) (f2 : ∀ f i j, ¬ (f = 1025 ∨ ((f = 1088 ∨ f = 1152 ∨ f = 1216 ∨ f = 1536 ∨ f = 1600) ∧ j = gN A + 1)) → S2 f i j = S f i j) (u25 : S2 1025 0 0 = nI (gN A + 1)) (u88 : S2 1088 0 (gN A + 1) = nI K) (u36 : S2 1536 0 (gN A + 1) = nI 0) (u00 : S2 1600 0 (gN A + 1) = nI 0) : lkM (zu S2 1216 0 (gN A + 1) (nI s)) ck (aEnd A K s) ∧ zfr S (zu S2 1216 0 (gN A + 1) (nI s)) pmm := by
  have h6 : ¬ K < 6 := by omega
  have hk2 : ∀ f i j, f ≠ 1216 → zu S2 1216 0 (gN A + 1) (nI s) f i j = S2 f i j := fun f i j z => zu_f _ _ z
  refine radd (x := (K, 0, s, 0, gN A + 1, 0, 0, false, 0, (false, [], []))) hl h.1.2.2.2.1 (fun f i j hf => ?_) ((hk2 _ _ _ (by decide)).trans u25) ⟨(hk2 _ _ _ (by decide)).trans u88, fun z => absurd z h6, zu_self _ _ _ _ _, (hk2 _ _ _ (by decide)).trans u36, 0, (hk2 _ _ _ (by decide)).trans u00, by decide, rfl⟩ ?_ (by show ¬ K = 3; omega) (fun z => absurd z h6)
  · have e : ¬ (f = 1216 ∧ i = 0 ∧ j = gN A + 1) := by omega
    unfold zu
    rw [if_neg e]
    exact f2 f i j (by omega)
  · unfold mB
    rw [upL_self]
    rcases hK with rfl | rfl <;> trivial
section R100
variable {Q : zO → zT → Prop} {S0 : zS} {d s : Nat} {x2 : Int32}
theorem r100L (hs : s < 2000) : ∀ (n : Nat) (A : aSt) (c ck : Nat) (S : zS) (x5 : Option zV), lkM S ck A → rokRl s n A → S 1054 0 0 = nI 0 → zfr S0 S pmu → ck + 400 * (1144 - gN A) + 400 < 2 ^ 31 → (∀ (S' : zS) (ck' : Nat), lkM S' ck' (aEnd (aRolL s n A c).1 7 s) → zfr S0 S' pmu → S' 1054 0 0 = nI 0 → ck' + 400 * gN A ≤ ck + 400 * gN (aRolL s n A c).1 → Q (.inl (some (.inl (nI (aRolL s n A c).2)))) (S', d)) → zwp 100 (10, [some (.inr (some (16, 0))), some (.inl (nI s)), some (.inl x2), some (.inl (nI c)), some (.inl (nI n)), x5], [], (S, d)) Q
  | 0, A, c, ck, S, x5, hl, hok, h54, hz, hck, hQ => by
    obtain ⟨hr, hn⟩ := hok
    refine w100_10 ⟨fun _ => zwp_mono (r88 (K := 7) (p := 0) hl.n.size (by omega) (by decide) (by decide)) (fun o t h => ?_), fun z => absurd (by decide) z⟩
    obtain ⟨S2, rfl, rfl, f2, u25, u88, u52, u16, u36, u00⟩ := h
    refine w100_145 ⟨gN A + 1, rfl, by omega, ?_⟩
    rw [nars (by omega)]
    obtain ⟨g2, z2⟩ := rEnd hl hr (Or.inr rfl) hs f2 u25 u88 u36 u00
    refine hQ _ ck g2 (pmu_l hz (pml_m pml_rf z2)) ?_ (Nat.le_refl _)
    rw [z2 _ _ _ (by show ¬ (_ ∨ _); omega)]
    exact h54
  | n + 1, A, c, ck, S, x5, hl, hok, h54, hz, hck, hQ => by
    obtain ⟨hr, hnA, o1, o2⟩ := hok
    have hn := hr.1.1.n
    have hg := hl.log
    have hwr := hr.1.1.log.2 (n + 1) (by omega) hnA
    obtain ⟨⟨a1, a2, a3, a4, -⟩, aB⟩ := hg.2.2.2 (n + 1) (by omega) hnA
    have e1 : nI (n + 1) + zint (-1) = nI n := nI_dec' (by omega)
    have hR : aRolL s (n + 1) A c = if rUn A s (n + 1) = true then aRolL s n (aUndo A s (n + 1)) (c + 1) else aRolL s n A c := rfl
    rw [hR] at hQ
    have no : rUn A s (n + 1) = false → ∀ x, zwp 100 (10, [some (.inr (some (16, 0))), some (.inl (nI s)), some (.inl x2), some (.inl (nI c)), some (.inl (nI (n + 1) + zint (-1))), x], [], (S, d)) Q := by
      intro hf x
      rw [hf, if_neg (by decide)] at hQ
      rw [e1]
      exact r100L hs n A c ck S x hl (o2 hf) h54 hz hck hQ
    have nof : ¬ ((rW (gL A (n + 1)) = s ∧ (rK (gL A (n + 1)) = 1 ∨ rK (gL A (n + 1)) = 2) ∧ rU (gL A (n + 1)) = 0)) → rUn A s (n + 1) = false := fun z => by
      unfold rUn
      rw [decide_eq_false z]
      rfl
    refine w100_10 ⟨fun z => absurd z (nI_nle (by omega) (by omega)), fun _ => ⟨n + 1, rfl, by omega, fun h2 => ?_, fun h2 => ⟨n + 1, rfl, by omega, fun hw => ⟨n + 1, rfl, by omega, fun hu => ?_, fun hu => ?_⟩, fun hw => ?_⟩⟩⟩
    · rw [a1, nI_lt_iff (by decide) (by have := hwr.1; omega)] at h2
      exact no (nof (fun z => by omega)) _
    · have b4 := hwr.2.2.2.1
      have b3 := hwr.2.2.1
      have b1 := hwr.1
      rw [a1, nI_lt_iff (by decide) (by omega)] at h2
      rw [a3, nI_eq_iff (by omega) (by omega)] at hw
      rw [a4, ← nI_0, nI_eq_iff (by omega) (by decide)] at hu
      have hK : rK (gL A (n + 1)) = 1 ∨ rK (gL A (n + 1)) = 2 := by
        have hp := hr.1.2.2.2.1 n (by omega)
        have : rK (gL A (n + 1)) ≠ 0 := fun e => by
          have := hp.2 (by omega)
          unfold legal at this
          rw [e] at this
          exact this
        omega
      refine zwp_mono (r99 hg hr.1.1.log (by omega) hnA) (fun o t h => ?_)
      obtain ⟨rfl, rfl⟩ := h
      have eU : rUn A s (n + 1) = !undn (gL A) (n + 1) (gN A) := by
        unfold rUn
        rw [decide_eq_true ⟨hw, hK, hu⟩, Bool.true_and]
      have hB : S 1280 0 (n + 1) = nI (rY (gL A (n + 1))) ∧ S 1408 0 (n + 1) = b2i (rH (gL A (n + 1))) ∧ S 1472 0 (n + 1) = rB (gL A (n + 1)) := by
        unfold mB at aB
        rcases hK with e | e
        · rw [e] at aB
          exact ⟨aB.1, aB.2.2.1, aB.2.2.2⟩
        · rw [e] at aB
          exact ⟨aB.1, aB.2.1, aB.2.2⟩
      refine w100_53 ⟨fun h0 => ?_, fun h0 => ?_⟩
      · rw [b2i_0] at h0
        have hT : rUn A s (n + 1) = true := by rw [eU, h0]; rfl
        rw [hT, if_pos rfl] at hQ
        obtain ⟨q1, q2, q3, q4⟩ := o1 hT
        have hgr := undo_n (s := s) hr q2 (fun z => (q3 z).2.1)
        have hgm := q4.r.1.1.n
        have nx : ∀ (S1 : zS) (ck1 : Nat) (x5 : Option zV), lkM S1 ck1 (aUndo A s (n + 1)) → zfr S0 S1 pmu → ck1 ≤ ck + 301 → zwp 100 (127, [some (.inr (some (16, 0))), some (.inl (nI s)), some (.inl x2), some (.inl (nI c + nI 1)), some (.inl (nI (n + 1))), x5], [], (S1, d)) Q := by
          intro S1 ck1 x5 g1 z1 q5
          refine w100_127 ?_
          rw [e1, nI_add]
          refine r100L hs n (aUndo A s (n + 1)) (c + 1) ck1 (zu S1 1054 0 0 (nI 0)) x5 (lkM_u g1) q4 (zu_self _ _ _ _ _) (pmu_u z1) (by omega) (fun S' ck' p1 p2 p3 p4 => hQ S' ck' p1 p2 p3 (by omega))
        refine ⟨n + 1, rfl, by omega, fun h6 => ⟨n + 1, rfl, by omega, ?_⟩, fun h6 => ⟨n + 1, rfl, by omega, n + 1, rfl, by omega, ?_⟩⟩
        · rw [hB.2.1, b2i_0] at h6
          rw [hB.1]
          obtain ⟨q5, q6, q7⟩ := q3 h6
          have eu : aUndo A s (n + 1) = (aTake A s (rY (gL A (n + 1))) (n + 1) 0).1 := by
            unfold aUndo
            rw [if_neg (by rw [h6]; decide)]
          obtain ⟨r1, r2, r3, r4, r5⟩ := aDown_k (key := rY (gL A (n + 1))) hr
          have eM : gM (aDown A (rY (gL A (n + 1)))).1 = gM A := by
            unfold gM
            rw [r4, r5]
          refine r93 (key := rY (gL A (n + 1))) (lkM_u hl) hr (by omega) q5 (fun S1 ck1 g1 k1 c1 z1 => ?_)
          have eT : (aTake A s (rY (gL A (n + 1))) (n + 1) 0).1 = aAdd (aDown A (rY (gL A (n + 1)))).1 (aChg 2 (aDown A (rY (gL A (n + 1)))).2 s (n + 1) (gN A + 1) (rY (gL A (n + 1))) 0 (gC (aDown A (rY (gL A (n + 1)))).1 (aDown A (rY (gL A (n + 1)))).2)) := by
            unfold aTake
            rw [if_pos q6, aLast_e (Nat.zero_le _)]
          have h80 : S1 1280 0 (n + 1) = nI (rY (gL A (n + 1))) := by
            have := g1.log.2.2.2 (n + 1) (by omega) (by rw [r5]; exact hnA)
            have b := this.2
            rw [r4] at b
            unfold mB at b
            rcases hK with e | e
            · rw [e] at b
              exact b.1
            · rw [e] at b
              exact b.1
          generalize aDown A (rY (gL A (n + 1))) = D at *
          refine w100_109 ⟨n + 1, rfl, by omega, ?_⟩
          rw [h80]
          refine r94 (K := 2) (u := n + 1) (v := 0) g1 r1 (by omega) r3 q5 ?_ (by omega) hs q1 (Or.inr rfl) (fun z => absurd z (by decide)) (by omega) (by omega) (fun S2 z2 g2 => ?_)
          · rw [z1 _ _ _ (by show ¬ ((_ ∨ _) ∨ (_ ∨ _)); omega), zu_self]
          · rw [r5, ← eT, ← eu] at g2
            exact nx S2 (ck1 + 1) _ g2 (pmu_l (pmu_l (pmu_u hz) z1) z2) (by omega)
        · have h7 : rH (gL A (n + 1)) = true := by
            cases hb : rH (gL A (n + 1)) with
            | true => rfl
            | false => rw [hB.2.1, hb] at h6; exact absurd rfl h6
          rw [hB.1, hB.2.2]
          have eu : aUndo A s (n + 1) = (aPut A s (rY (gL A (n + 1))) (rB (gL A (n + 1))) (n + 1)).1 := by
            unfold aUndo
            rw [if_pos h7]
          rw [eu] at nx
          refine r95 (s := s) (u := n + 1) (lkM_u hl) hr (q2 h7) q1 hs (zu_self _ _ _ _ _) (by omega) (by omega) (fun S1 ck1 z1 g1 p1 => ?_)
          exact w100_94 (nx S1 ck1 _ g1 (pmu_l (pmu_u hz) z1) (by omega))
      · have h1 : undn (gL A) (n + 1) (gN A) = true := by
          cases hb : undn (gL A) (n + 1) (gN A) with
          | true => rfl
          | false => rw [hb] at h0; exact absurd rfl h0
        exact no (by rw [eU, h1]; rfl) _
    · have b4 := hwr.2.2.2.1
      rw [a4, ← nI_0, nI_eq_iff (by omega) (by decide)] at hu
      exact no (nof (fun z => hu z.2.2)) _
    · have b3 := hwr.2.2.1
      rw [a3, nI_eq_iff (by omega) (by omega)] at hw
      exact no (nof (fun z => hw z.1)) _
theorem r100 {A : aSt} {ck : Nat} {S : zS} (hs : s < 2000) (hl : lkM S ck A) (hok : rokRl s (gN A) A) (h54 : S 1054 0 0 = nI 0) (hck : ck + 400 * (1144 - gN A) + 400 < 2 ^ 31) (hQ : ∀ (S' : zS) (ck' : Nat), lkM S' ck' (aRoll A s).1 → zfr S S' pmu → S' 1054 0 0 = nI 0 → ck' + 400 * gN A ≤ ck + 400 * gN (aRoll A s).1 → Q (.inl (some (.inl (nI (aRoll A s).2)))) (S', d)) : zwp 100 (0, zent 100 [.inr (some (16, 0)), .inl (nI s)], [], (S, d)) Q := by
  refine w100_0 ?_
  rw [hl.log.1]
  refine r100L hs (gN A) A 0 ck S none hl hok h54 (fun _ _ _ _ => rfl) hck (fun S' ck' q1 q2 q3 q4 => hQ S' ck' q1 q2 q3 ?_)
  have : gN (aRoll A s).1 = gN (aRolL s (gN A) A 0).1 + 1 := rfl
  rw [this]
  omega
end R100
