/-! PageKeeper.rollBack. -/
theorem lkC_fr {S S' : zS} {d sl : Nat} {A : aSt} (h : ∀ f i j, f < 1024 → f ≠ 6 → f ≠ 7 → f ≠ 512 → f ≠ 576 → f ≠ 960 → S' f i j = S f i j) (hl : lkC S d sl A) : lkC S' d sl A := by
  obtain ⟨lg, n, fo, im, dm, bk, pl, r, w, e, q⟩ := A
  obtain ⟨l1, l2, l3, l4, l5, l6, l7, l8⟩ := hl
  have hk : ∀ f i j, f < 512 → f ≠ 6 → f ≠ 7 → S' f i j = S f i j := fun f i j q1 q2 q3 => h f i j (by omega) q2 q3 (by omega) (by omega) (by omega)
  exact ⟨llog_congr (fun f i j hf => hk f i j (by omega) (by omega) (by omega)) (by rw [hk _ _ _ (by decide) (by decide) (by decide)]; exact l1.2.1) l1, by rw [hk _ _ _ (by decide) (by decide) (by decide)]; exact l2, fun p hp => lpg_congr (fun f j hf => h f p j (by omega) (by omega) (by omega) (by omega) (by omega) (by omega)) (l3 p hp), lpool_congr (fun f j hf => hk f 0 j (by omega) (by omega) (by omega)) l4, by rw [hk _ _ _ (by decide) (by decide) (by decide)]; exact l5, by rw [hk _ _ _ (by decide) (by decide) (by decide)]; exact l6, by rw [hk _ _ _ (by decide) (by decide) (by decide)]; exact l7, by rw [hk _ _ _ (by decide) (by decide) (by decide)]; exact l8⟩
def rUn (A : aSt) (s n : Nat) : Bool := decide (rW (gL A n) = s ∧ (rK (gL A n) = 1 ∨ rK (gL A n) = 2) ∧ rU (gL A n) = 0) && !undn (gL A) n (gN A)
def aUndo (A : aSt) (s n : Nat) : aSt := if rH (gL A n) = true then (aPut A s (rY (gL A n)) (rB (gL A n)) n).1 else (aTake A s (rY (gL A n)) n 0).1
def aRolL (s : Nat) : Nat → aSt → Nat → aSt × Nat
  | 0, A, c => (A, c)
  | n + 1, A, c => if rUn A s (n + 1) = true then aRolL s n (aUndo A s (n + 1)) (c + 1) else aRolL s n A c
def aEnd (A : aSt) (K s : Nat) : aSt := aAdd A (K, 0, s, 0, gN A + 1, 0, 0, false, 0, (false, [], []))
def aRoll (A : aSt) (s : Nat) : aSt × Nat := (aEnd (aRolL s (gN A) A 0).1 7 s, (aRolL s (gN A) A 0).2)
def okRl (s : Nat) : Nat → aSt → Prop
  | 0, A => wA A ∧ gN A < 1144
  | n + 1, A => wA A ∧ kids A ∧ n + 1 ≤ gN A ∧ (rUn A s (n + 1) = true → rY (gL A (n + 1)) < 40 ∧ (rH (gL A (n + 1)) = true → okP A (rY (gL A (n + 1)))) ∧ (rH (gL A (n + 1)) = false → (gC (aDown A (rY (gL A (n + 1)))).1 (aDown A (rY (gL A (n + 1)))).2).1 = false ∧ gN A < 1144) ∧ okRl s n (aUndo A s (n + 1))) ∧ (rUn A s (n + 1) = false → okRl s n A)
theorem aTake_sl {A : aSt} {s k u sl : Nat} (h : sl ≤ gN A) : aTake A s k u sl = aTake A s k u 0 := by
  unfold aTake
  rw [aLast_e h, aLast_e (Nat.zero_le _)]
theorem lkS.put {S : zS} {d : Nat} {A : aSt} {s k u sl : Nat} (hsl : sl ≤ gN A) (h : lkC S d sl (aTake A s k u sl).1) (hm : gN A ≤ gN (aTake A s k u 0).1) : lkS S d (aTake A s k u 0).1 := by
  rw [aTake_sl hsl] at h
  exact ⟨sl, Nat.le_trans hsl hm, h⟩
theorem aTake_n {A : aSt} {s k u : Nat} (hw : wA A) (hk : kids A) : gN A ≤ gN (aTake A s k u 0).1 := by
  obtain ⟨w1, w2, w3, w4, w5⟩ := down_w (key := k) 39 (aFix A 0) 0 (wA_fix hw (by decide)) (kids_fix hk) (by decide)
  rw [log_fix.2] at w5
  have w5 : gN (aDown A k).1 = gN A := w5
  unfold aTake
  split
  · show gN A ≤ gN (aAdd _ _)
    rw [log_add.2]
    exact Nat.le_succ_of_le (Nat.le_of_eq w5.symm)
  · exact Nat.le_of_eq w5.symm
section RB
variable {S : zS} {d : Nat} {A : aSt}
theorem c47 {m : Nat} {r : aRec} {b : Bool} (h1 : S 193 m 0 = nI (rK r)) (hk : rK r < 8) (h2 : S 197 m 0 = nI (rU r)) (hu : rU r < 2000) (h3 : S 198 m 0 = b2i b) : zwp 47 (0, zent 47 [.inr (some (3, m))], [], (S, d)) (fun o t => o = .inl (some (.inl (b2i (decide ((rK r = 1 ∨ rK r = 2) ∧ rU r = 0) && !b)))) ∧ t = (S, d)) := by
  refine w47_0 (zwp_mono (c46 h1 hk) (fun o t h => ?_))
  obtain ⟨rfl, rfl⟩ := h
  refine w47_4 ⟨fun h0 => ?_, fun h0 => ⟨fun h5 => ⟨fun h6 => ?_, fun h6 => ?_⟩, fun h5 => ?_⟩⟩
  · rw [b2i_0] at h0
    have h0 := of_decide_eq_false h0
    rw [decide_eq_false (fun z => h0 z.1)]
    exact ⟨rfl, rfl⟩
  all_goals
    have hc : rK r = 1 ∨ rK r = 2 := by
      by_cases hc : rK r = 1 ∨ rK r = 2
      · exact hc
      · rw [decide_eq_false hc] at h0
        exact absurd rfl h0
  · rw [h2, ← nI_0, nI_eq_iff (by omega) (by decide)] at h5
    rw [h3, b2i_0] at h6
    rw [decide_eq_true ⟨hc, h5⟩, h6]
    exact ⟨rfl, rfl⟩
  · rw [h3] at h6
    cases b with
    | false => exact absurd rfl h6
    | true =>
      rw [Bool.not_true, Bool.and_false]
      exact ⟨rfl, rfl⟩
  · rw [h2, ← nI_0, nI_eq_iff (by omega) (by decide)] at h5
    rw [decide_eq_false (fun z => h5 z.2)]
    exact ⟨rfl, rfl⟩
-- COMMIT, END
theorem cEnds {K s : Nat} (hl : lkS S d A) (hw : wA A) (hn : gN A < 1144) (hK : K = 6 ∨ K = 7) (hs : s < 2000) : zwp 39 (0, zent 39 [.inr (some (1, 0)), .inl (nI K), .inl (zint (-1)), .inl (zint (-1)), .inl (nI s)], [], (S, d)) (fun o t => ∃ S' d', o = .inl (some (.inr (some (3, gN A + 1)))) ∧ t = (S', d') ∧ lkS S' d' (aEnd A K s) ∧ zkp S S') := by
  obtain ⟨sl, hsl, hlC⟩ := hl
  have hg := hlC.log
  refine zwp_mono (c39 hg.1 hg.2.2.1 hn hg.2.2.2.1 hg.2.2.2.2.1 (by omega)) (fun o t h => ?_)
  obtain ⟨S2, d2, rfl, rfl, g0, g1, g2, f2, u65, u192, u193, u194, u195, u196, u197, u198, u199⟩ := h
  have hx : okr A (K, 0, s, 0, gN A + 1, 0, 0, false, 0, (false, [], [])) := by
    refine ⟨⟨by show K < 8; omega, fun z => by have z : K < 6 := z; omega, hs, by show 0 < gN A + 1; omega, by show gN A + 1 < 2000; omega, by show 0 < 64; decide, fun _ => rfl⟩, fun z => by have z : K < 6 := z; omega⟩
  have h6 : ¬ K < 6 := by omega
  refine ⟨S2, d2, rfl, rfl, ⟨sl, by show sl ≤ gN A + 1; omega, cEnd (x := (K, 0, s, 0, gN A + 1, 0, 0, false, 0, (false, [], []))) hlC hw hn hx (by show 6 ≤ K; omega) f2 g1 g2 u65 ⟨u192, u193, ?_, ?_, u196, u197, ?_⟩ u198⟩, zkp_row f2⟩
  · show S2 194 (gN A + 1) 0 = if K < 6 then _ else _
    rw [if_neg h6]
    exact u194
  · show S2 195 (gN A + 1) 0 = if K < 6 then _ else _
    rw [if_neg h6]
    exact u195
  · show S2 199 (gN A + 1) 0 = nI (gN A + 1)
    rw [u199, if_neg (by omega)]
end RB
section RBL
variable {s : Nat} {S0 : zS} {ls : Nat → Nat} {Q : zO → zT → Prop}
theorem c24L (hs : s < 2000) (hls : llos S0 ls) (hwl : wlos ls) : ∀ (n : Nat) (A : aSt) (c : Nat) (S : zS) (d : Nat) (x4 : Option zV), lkS S d A → okRl s n A → zkp S0 S → (∀ (S' : zS) (d' : Nat), lkS S' d' (aEnd (aRolL s n A c).1 7 s) → llos S' (fun k => if ls k = s then 0 else ls k) → (∀ f i j, (f = 6 ∨ f = 7 ∨ f = 960 ∨ f = 512 ∨ 1024 ≤ f) → S' f i j = S0 f i j) → Q (.inl (some (.inl (nI (aRolL s n A c).2)))) (S', d')) → zwp 24 (10, [some (.inr (some (0, 0))), some (.inl (nI s)), some (.inl (nI c)), some (.inl (nI n)), x4], [], (S, d)) Q
  | 0, A, c, S, d, x4, hl, hok, hz, hQ => by
    obtain ⟨hw, hn⟩ := hok
    refine w24_10 ⟨fun _ => zwp_mono (cEnds hl hw hn (Or.inr rfl) hs) (fun o t h => ?_), fun z => absurd (by decide) z⟩
    obtain ⟨S1, d1, rfl, rfl, ⟨sl, hsl, k1⟩, z1⟩ := h
    have hz1 := hz.tr z1
    have hl1 : llos S1 ls := fun k hk => by
      rw [hz1 576 0 k (by simp)]
      exact hls k hk
    refine w24_106 (zwp_mono (c59 hl1 hwl hs) (fun o t h => ?_))
    obtain ⟨S2, rfl, rfl, f2, k2⟩ := h
    have f2 : ∀ f i j, f ≠ 576 → S2 f i j = S1 f i j := fun f i j h => f2 f i j h
    refine w24_115 (hQ S2 d1 ⟨sl, hsl, lkC_fr (fun f i j _ _ _ _ h5 _ => f2 f i j h5) k1⟩ k2 (fun f i j hf => ?_))
    rw [f2 f i j (by omega)]
    exact hz1 f i j (by omega)
  | n + 1, A, c, S, d, x4, hl, hok, hz, hQ => by
    obtain ⟨hw, hki, hnA, o1, o2⟩ := hok
    obtain ⟨sl, hsl, hlC⟩ := id hl
    have hg := hlC.log
    have hn := hw.n
    have hwr := hw.log.2 (n + 1) (by omega) hnA
    obtain ⟨⟨a1, a2, a3, a4, a5, a6, a7⟩, a8, aB⟩ := hg.2.2.2.2.2 (n + 1) (by omega) hnA
    have e1 : nI (n + 1) + zint (-1) = nI n := nI_dec' (by omega)
    have hR : aRolL s (n + 1) A c = if rUn A s (n + 1) = true then aRolL s n (aUndo A s (n + 1)) (c + 1) else aRolL s n A c := rfl
    rw [hR] at hQ
    have no : rUn A s (n + 1) = false → ∀ x, zwp 24 (10, [some (.inr (some (0, 0))), some (.inl (nI s)), some (.inl (nI c)), some (.inl (nI (n + 1) + zint (-1))), x], [], (S, d)) Q := by
      intro hf x
      rw [hf, if_neg (by decide)] at hQ
      rw [e1]
      exact c24L hs hls hwl n A c S d x hl (o2 hf) hz hQ
    refine w24_10 ⟨fun z => absurd z (nI_nle (by omega) (by omega)), fun _ => ⟨n + 1, rfl, by omega, ⟨by omega, by have := hg.2.2.2.1; omega⟩, fun hs1 => ?_, fun hs1 => ?_⟩⟩
    · rw [a5, nI_eq_iff (by have := hwr.2.2.1; omega) (by omega)] at hs1
      refine zwp_mono (c47 (r := gL A (n + 1)) a2 hwr.1 a6 (by have := hwr.2.2.2.1; omega) a8) (fun o t h => ?_)
      obtain ⟨rfl, rfl⟩ := h
      have eU : rUn A s (n + 1) = (decide ((rK (gL A (n + 1)) = 1 ∨ rK (gL A (n + 1)) = 2) ∧ rU (gL A (n + 1)) = 0) && !undn (gL A) (n + 1) (gN A)) := by
        unfold rUn
        congr 1
        exact decide_eq_decide.mpr ⟨fun h => h.2, fun h => ⟨hs1, h⟩⟩
      rw [← eU]
      refine w24_39 ⟨fun h0 => ?_, fun h0 => ?_⟩
      · rw [b2i_0] at h0
        exact no h0 _
      · have hT : rUn A s (n + 1) = true := by
          cases hb : rUn A s (n + 1) with
          | true => rfl
          | false => rw [hb] at h0; exact absurd rfl h0
        rw [hT, if_pos rfl] at hQ
        obtain ⟨q1, q2, q3, q4⟩ := o1 hT
        have hK : rK (gL A (n + 1)) = 1 ∨ rK (gL A (n + 1)) = 2 := by
          rw [eU, Bool.and_eq_true, decide_eq_true_eq] at hT
          exact hT.1.1
        have hB : S 200 (n + 1) 0 = nI (rY (gL A (n + 1))) ∧ S 206 (n + 1) 0 = b2i (rH (gL A (n + 1))) ∧ S 207 (n + 1) 0 = rB (gL A (n + 1)) := by
          unfold lrB at aB
          rcases hK with e | e
          · rw [e] at aB
            exact ⟨aB.1, aB.2.2.1, aB.2.2.2⟩
          · rw [e] at aB
            exact ⟨aB.1, aB.2.1, aB.2.2⟩
        have nx : ∀ (S1 : zS) (d1 : Nat), lkS S1 d1 (aUndo A s (n + 1)) → zkp S S1 → zwp 24 (10, [some (.inr (some (0, 0))), some (.inl (nI s)), some (.inl (nI c + nI 1)), some (.inl (nI (n + 1) + zint (-1))), some (.inr (some (3, n + 1)))], [], (S1, d1)) Q := by
          intro S1 d1 h1 h2
          rw [e1, nI_add]
          exact c24L hs hls hwl n (aUndo A s (n + 1)) (c + 1) S1 d1 _ h1 q4 (hz.tr h2) hQ
        refine ⟨fun h6 => ?_, fun h6 => ?_⟩
        · rw [hB.2.1, b2i_0] at h6
          rw [hB.1]
          obtain ⟨q5, q6⟩ := q3 h6
          have eu : aUndo A s (n + 1) = (aTake A s (rY (gL A (n + 1))) (n + 1) 0).1 := by
            unfold aUndo
            rw [if_neg (by rw [h6]; decide)]
          rw [eu] at nx
          refine zwp_mono (c26 (s := s) (k := rY (gL A (n + 1))) (u := n + 1) hlC hw hki q6 hs q1 hnA (by omega) q5) (fun o t h => ?_)
          obtain ⟨S1, d1, rfl, rfl, k1, z1⟩ := h
          exact w24_84 (nx S1 d1 (lkS.put hsl k1 (aTake_n hw hki)) z1)
        · have h7 : rH (gL A (n + 1)) = true := by
            cases hb : rH (gL A (n + 1)) with
            | true => rfl
            | false => rw [hB.2.1, hb] at h6; exact absurd rfl h6
          rw [hB.1, hB.2.2]
          have eu : aUndo A s (n + 1) = (aPut A s (rY (gL A (n + 1))) (rB (gL A (n + 1))) (n + 1)).1 := by
            unfold aUndo
            rw [if_pos h7]
          rw [eu] at nx
          refine zwp_mono (c25 (s := s) (u := n + 1) hl hw hki q1 hs hnA (q2 h7)) (fun o t h => ?_)
          obtain ⟨S1, d1, rfl, rfl, k1, z1⟩ := h
          exact w24_69 (nx S1 d1 k1 z1)
    · rw [a5, nI_eq_iff (by have := hwr.2.2.1; omega) (by omega)] at hs1
      refine no ?_ _
      unfold rUn
      rw [decide_eq_false (fun z => hs1 z.1)]
      rfl
end RBL
theorem c24 {S : zS} {d s : Nat} {A : aSt} {ls : Nat → Nat} (hl : lkS S d A) (hok : okRl s (gN A) A) (hs : s < 2000) (hls : llos S ls) (hwl : wlos ls) : zwp 24 (0, zent 24 [.inr (some (0, 0)), .inl (nI s)], [], (S, d)) (fun o t => ∃ S' d', o = .inl (some (.inl (nI (aRoll A s).2))) ∧ t = (S', d') ∧ lkS S' d' (aRoll A s).1 ∧ llos S' (fun k => if ls k = s then 0 else ls k) ∧ ∀ f i j, (f = 6 ∨ f = 7 ∨ f = 960 ∨ f = 512 ∨ 1024 ≤ f) → S' f i j = S f i j) := by
  obtain ⟨sl, hsl, hlC⟩ := id hl
  refine w24_0 ?_
  rw [hlC.size]
  exact c24L hs hls hwl (gN A) A 0 S d none hl hok (zkp.rf S) (fun S' d' h1 h2 h3 => ⟨S', d', rfl, rfl, h1, h2, h3⟩)
