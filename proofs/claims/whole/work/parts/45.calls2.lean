/-! The class's commit, abort, settle. -/
def stFo (A : aSt) (m : Nat) : aSt := match A with
  | (lg, n, fo, im, dm, bk, pl, r, w, e, q) => (lg, n, aForce lg m fo, im, dm, bk, pl, r, w, e, q)
theorem lkC_fo {S S1 : zS} {d sl m : Nat} {A : aSt} (hl : lkC S d sl A) (hf : zfr S S1 (fun f _ => f = 66)) (h66 : S1 66 0 0 = nI (aForce (gL A) m (gFo A))) : lkC S1 d sl (stFo A m) := by
  obtain ⟨lg, n, fo, im, dm, bk, pl, r, w, e, q⟩ := A
  obtain ⟨l1, l2, l3, l4, l5, l6, l7, l8⟩ := hl
  have hk : ∀ f i j, f ≠ 66 → S1 f i j = S f i j := fun f i j h => hf f i j h
  exact ⟨llog_congr (fun f i j hf => hk f i j (by omega)) h66 l1, by rw [hk _ _ _ (by decide)]; exact l2, fun x hx => lpg_congr (fun f j hf => hk f x j (by omega)) (l3 x hx), lpool_congr (fun f j hf => hk f 0 j (by omega)) l4, by rw [hk _ _ _ (by decide)]; exact l5, by rw [hk _ _ _ (by decide)]; exact l6, by rw [hk _ _ _ (by decide)]; exact l7, by rw [hk _ _ _ (by decide)]; exact l8⟩
def aCommit (A : aSt) (s : Nat) : aSt := stFo (aEnd A 6 s) (gN A + 1)
def clH (hd : Nat → Nat → Nat) (t : Nat) : Nat → Nat → Nat := fun t' k => if t' = t then 0 else hd t' k
def clS (sr : Nat → Nat) (t : Nat) : Nat → Nat := fun j => if j = t then 0 else sr j
section CM2
variable {S : zS} {d : Nat} {A : aSt} {sr : Nat → Nat} {ss g : Nat} {hd : Nat → Nat → Nat} {ls : Nat → Nat} {t : Nat}
theorem lkW.close {S' : zS} (h : lkW S d A sr ss g hd ls) (h1 : zfr S S' (fun f _ => f = 512 ∨ f = 960)) (h2 : lheld S' (clH hd t)) (h3 : ∀ x, S' 960 0 x = if x = t then nI 0 else S 960 0 x) : lkW S' d A (clS sr t) ss g (clH hd t) ls := by
  have h1 : ∀ f i j, f ≠ 512 → f ≠ 960 → S' f i j = S f i j := fun f i j z1 z2 => h1 f i j (fun z => z.elim z1 z2)
  obtain ⟨⟨sl, hsl, k1⟩, g1, g2, g3, g4, g5⟩ := h
  refine ⟨⟨sl, hsl, lkC_fr (fun f i j _ _ _ z _ z2 => h1 f i j z z2) k1⟩, fun j hj => ?_, (h1 _ _ _ (by decide) (by decide)).trans g2, (h1 _ _ _ (by decide) (by decide)).trans g3, h2, fun k hk => (h1 _ _ _ (by decide) (by decide)).trans (g5 k hk)⟩
  rw [h3 j]
  unfold clS
  by_cases e : j = t
  · rw [if_pos e, if_pos e]
  · rw [if_neg e, if_neg e]
    exact g1 j hj
theorem k4 (hW : lkW S d A sr ss g hd ls) (hsr : sr t ≠ 0) (hs2 : sr t < 2000) (ht : t < 4) (hw : wA A) (hn : gN A < 1144) : zwp 4 (0, zent 4 [.inr (some (0, 0)), .inl (nI t)], [], (S, d)) (fun o u => ∃ S' d', u = (S', d') ∧ hi4 S S' ∧ o = .inl (some (.inl (nI (gN A + 1)))) ∧ lkW S' d' (aCommit A (sr t)) (clS sr t) ss g (clH hd t) ls) := by
  have hop : ¬ S 960 0 t = 0 := by
    rw [hW.2.1 t ht, ← nI_0, nI_eq_iff (by omega) (by decide)]
    exact hsr
  refine w4_0 (zwp_mono (c19y ht) (fun o u h => ?_))
  obtain ⟨rfl, rfl⟩ := h
  refine w4_4 (zwp_mono (c21y ht hop) (fun o u h => ?_))
  obtain ⟨rfl, rfl⟩ := h
  refine w4_9 ⟨t, rfl, ht, ?_⟩
  rw [hW.2.1 t ht]
  refine zwp_mono (cEnds hW.1 hw hn (Or.inl rfl) hs2) (fun o u h => ?_)
  obtain ⟨S1, d1, rfl, rfl, k1, z1⟩ := h
  have hW1 := hW.kp k1 z1
  obtain ⟨sl, hsl, hlC⟩ := id k1
  have hnum : S1 192 (gN A + 1) 0 = nI (gN A + 1) := hlC.num (by omega) (Nat.le_refl _)
  have hx : okr A (6, 0, sr t, 0, gN A + 1, 0, 0, false, 0, (false, [], [])) := by
    refine ⟨⟨by show 6 < 8; decide, fun z => absurd z (by show ¬ 6 < 6; decide), hs2, by show 0 < gN A + 1; omega, by show gN A + 1 < 2000; omega, by show 0 < 64; decide, fun _ => rfl⟩, fun z => absurd z (by show ¬ 6 < 6; decide)⟩
  have hw1 : wA (aEnd A 6 (sr t)) := wA_add hw hx hn
  have hfo : gFo (aEnd A 6 (sr t)) < 2000 := hw1.2.1
  refine w4_26 ?_
  rw [hnum]
  refine zwp_mono (c41 hlC.log (Nat.le_refl _) hfo (fun k q1 q2 => (hw1.log.2 k q1 q2).2.2.2.2.1)) (fun o u h => ?_)
  obtain ⟨S2, rfl, rfl, f2, g2⟩ := h
  have k2 := lkC_fo (m := gN A + 1) hlC f2 g2
  have f2' : ∀ f i j, f ≠ 66 → S2 f i j = S1 f i j := fun f i j z => f2 f i j z
  have hW2 : lkW S2 d1 (aCommit A (sr t)) sr ss g hd ls := hW1.kp ⟨sl, hsl, k2⟩ (fun f i j hf => f2' f i j (by omega))
  refine w4_38 (zwp_mono (c23 hW2.2.2.2.2.1 ht) (fun o u h => ?_))
  obtain ⟨S3, rfl, rfl, f3, g3, g4⟩ := h
  have f3' : ∀ f i j, f ≠ 512 → f ≠ 960 → S3 f i j = S2 f i j := fun f i j z1 z2 => f3 f i j (fun z => z.elim z1 z2)
  refine w4_43 ⟨S3, d1, rfl, fun f i j hf => ?_, ?_, hW2.close f3 g3 g4⟩
  · rw [f3' f i j (by omega) (by omega), f2' f i j (by omega)]
    exact z1 f i j (by omega)
  · rw [f3' _ _ _ (by decide) (by decide), f2' _ _ _ (by decide), hnum]
theorem k5 (hW : lkW S d A sr ss g hd ls) (hsr : sr t ≠ 0) (hs2 : sr t < 2000) (ht : t < 4) (hwl : wlos ls) (hok : okRl (sr t) (gN A) A) : zwp 5 (0, zent 5 [.inr (some (0, 0)), .inl (nI t)], [], (S, d)) (fun o u => ∃ S' d', u = (S', d') ∧ hi4 S S' ∧ o = .inl (some (.inl (nI (aRoll A (sr t)).2))) ∧ lkW S' d' (aRoll A (sr t)).1 (clS sr t) ss g (clH hd t) (relL ls (sr t))) := by
  have hop : ¬ S 960 0 t = 0 := by
    rw [hW.2.1 t ht, ← nI_0, nI_eq_iff (by omega) (by decide)]
    exact hsr
  refine w5_0 (zwp_mono (c19y ht) (fun o u h => ?_))
  obtain ⟨rfl, rfl⟩ := h
  refine w5_4 (zwp_mono (c21y ht hop) (fun o u h => ?_))
  obtain ⟨rfl, rfl⟩ := h
  refine w5_9 ⟨t, rfl, ht, ?_⟩
  rw [hW.2.1 t ht]
  refine zwp_mono (c24 hW.1 hok hs2 hW.2.2.2.2.2 hwl) (fun o u h => ?_)
  obtain ⟨S1, d1, rfl, rfl, k1, g1, z1⟩ := h
  have hW1 := hW.roll k1 g1 z1
  refine w5_19 (zwp_mono (c23 hW1.2.2.2.2.1 ht) (fun o u h => ?_))
  obtain ⟨S3, rfl, rfl, f3, g3, g4⟩ := h
  have f3' : ∀ f i j, f ≠ 512 → f ≠ 960 → S3 f i j = S1 f i j := fun f i j z1 z2 => f3 f i j (fun z => z.elim z1 z2)
  refine w5_25 ⟨S3, d1, rfl, fun f i j hf => ?_, rfl, hW1.close f3 g3 g4⟩
  rw [f3' f i j (by omega) (by omega)]
  exact z1 f i j (by omega)
end CM2
-- settle
def aSettL : Nat → aSt → (Nat → Nat) → Nat → aSt × (Nat → Nat) × Nat
  | 0, A, ls, c => (A, ls, c)
  | f + 1, A, ls, c => if lla ls 0 40 = 0 then (A, ls, c) else aSettL f (aRoll A (lla ls 0 40)).1 (relL ls (lla ls 0 40)) (c + 1)
def okSe : Nat → aSt → (Nat → Nat) → Prop
  | 0, _, _ => True
  | f + 1, A, ls => lla ls 0 40 ≠ 0 → lla ls 0 40 < 2000 ∧ okRl (lla ls 0 40) (gN A) A ∧ okSe f (aRoll A (lla ls 0 40)).1 (relL ls (lla ls 0 40))
section SE
variable {S0 : zS} {sr : Nat → Nat} {ss g : Nat} {hd : Nat → Nat → Nat} {Q : zO → zT → Prop}
theorem k6L : ∀ (f : Nat) (A : aSt) (ls : Nat → Nat) (c : Nat) (S : zS) (d : Nat) (x3 : Option zV), f ≤ 40 → lkW S d A sr ss g hd ls → wlos ls → okSe f A ls → hi4 S0 S → (∀ (S' : zS) (d' : Nat), lkW S' d' (aSettL f A ls c).1 sr ss g hd (aSettL f A ls c).2.1 → hi4 S0 S' → Q (.inl (some (.inl (nI (aSettL f A ls c).2.2)))) (S', d')) → zwp 6 (4, [some (.inr (some (0, 0))), some (.inl (nI c)), some (.inl (nI (40 - f))), x3], [], (S, d)) Q
  | 0, A, ls, c, S, d, x3, hf, hW, hwl, hok, h4, hQ => w6_4 ⟨fun _ => hQ S d hW h4, fun z => absurd (by rw [nI_le_iff (by omega) (by omega)]; omega) z⟩
  | f + 1, A, ls, c, S, d, x3, hf, hW, hwl, hok, h4, hQ => by
    have hf1 : 40 - f = 40 - (f + 1) + 1 := by omega
    have hR : aSettL (f + 1) A ls c = if lla ls 0 40 = 0 then (A, ls, c) else aSettL f (aRoll A (lla ls 0 40)).1 (relL ls (lla ls 0 40)) (c + 1) := rfl
    rw [hR] at hQ
    refine w6_4 ⟨fun z => ?_, fun _ => zwp_mono (c60 hW.2.2.2.2.2 hwl (s := 0) (by decide)) (fun o u h => ?_)⟩
    · rw [nI_le_iff (by decide) (by omega)] at z
      omega
    obtain ⟨rfl, rfl⟩ := h
    by_cases h0 : lla ls 0 40 = 0
    · rw [if_pos h0] at hQ
      exact w6_18 ⟨fun _ => hQ S d hW h4, fun z => absurd (by rw [h0]; rfl) z⟩
    · rw [if_neg h0] at hQ
      obtain ⟨q1, q2, q3⟩ := hok h0
      refine w6_18 ⟨fun z => ?_, fun _ => zwp_mono (c24 hW.1 q2 q1 hW.2.2.2.2.2 hwl) (fun o u h => ?_)⟩
      · rw [← nI_0, nI_eq_iff (by omega) (by decide)] at z
        exact absurd z h0
      · obtain ⟨S1, d1, rfl, rfl, k1, g1, z1⟩ := h
        refine w6_31 ?_
        rw [nI_add, nI_add, ← hf1]
        exact k6L f _ _ (c + 1) S1 d1 _ (by omega) (hW.roll k1 g1 z1) (relL_w hwl) q3 (fun f i j hf => (z1 f i j (by omega)).trans (h4 f i j hf)) hQ
end SE
theorem k6 {S : zS} {d : Nat} {A : aSt} {sr : Nat → Nat} {ss g : Nat} {hd : Nat → Nat → Nat} {ls : Nat → Nat} (hW : lkW S d A sr ss g hd ls) (hwl : wlos ls) (hok : okSe 40 A ls) : zwp 6 (0, zent 6 [.inr (some (0, 0))], [], (S, d)) (fun o u => ∃ S' d', u = (S', d') ∧ hi4 S S' ∧ o = .inl (some (.inl (nI (aSettL 40 A ls 0).2.2))) ∧ lkW S' d' (aSettL 40 A ls 0).1 sr ss g hd (aSettL 40 A ls 0).2.1) :=
  w6_0 (k6L 40 A ls 0 S d none (Nat.le_refl _) hW hwl hok (fun _ _ _ _ => rfl) (fun S' d' h1 h2 => ⟨S', d', rfl, h2, rfl, h1⟩))
