/-! The class's calls at an open place. -/
def lkW (S : zS) (d : Nat) (A : aSt) (sr : Nat → Nat) (ss g : Nat) (hd : Nat → Nat → Nat) (ls : Nat → Nat) : Prop := lkS S d A ∧ lser S sr ∧ S 6 0 0 = nI ss ∧ S 7 0 0 = nI g ∧ lheld S hd ∧ llos S ls
def relL (ls : Nat → Nat) (s : Nat) : Nat → Nat := fun k => if ls k = s then 0 else ls k
-- a loser's lock is met
def aClr (A : aSt) (ls : Nat → Nat) (k : Nat) : aSt × (Nat → Nat) := if ls k = 0 then (A, ls) else ((aRoll A (ls k)).1, relL ls (ls k))
theorem relL_w {ls : Nat → Nat} {s : Nat} (h : wlos ls) : wlos (relL ls s) := fun k => by
  have := h k
  unfold relL
  split <;> omega
section OC
variable {S : zS} {d : Nat} {A B : aSt} {sr : Nat → Nat} {ss g : Nat} {hd : Nat → Nat → Nat} {ls ls' : Nat → Nat} {t k : Nat}
abbrev hi4 (S S' : zS) : Prop := ∀ f i j, 1024 ≤ f → S' f i j = S f i j
theorem lkW.roll {S' : zS} {d' : Nat} (h : lkW S d A sr ss g hd ls) (h1 : lkS S' d' B) (h2 : llos S' ls') (h3 : ∀ f i j, (f = 6 ∨ f = 7 ∨ f = 960 ∨ f = 512 ∨ 1024 ≤ f) → S' f i j = S f i j) : lkW S' d' B sr ss g hd ls' :=
  ⟨h1, fun j hj => (h3 960 0 j (by omega)).trans (h.2.1 j hj), (h3 6 0 0 (by omega)).trans h.2.2.1, (h3 7 0 0 (by omega)).trans h.2.2.2.1, fun t k ht hk => (h3 512 t k (by omega)).trans (h.2.2.2.2.1 t k ht hk), h2⟩
theorem lkW.kp {S' : zS} {d' : Nat} (h : lkW S d A sr ss g hd ls) (h1 : lkS S' d' B) (h3 : zkp S S') : lkW S' d' B sr ss g hd ls :=
  ⟨h1, fun j hj => (h3 960 0 j (by omega)).trans (h.2.1 j hj), (h3 6 0 0 (by omega)).trans h.2.2.1, (h3 7 0 0 (by omega)).trans h.2.2.2.1, fun t k ht hk => (h3 512 t k (by omega)).trans (h.2.2.2.2.1 t k ht hk), fun k hk => (h3 576 0 k (by omega)).trans (h.2.2.2.2.2 k hk)⟩
theorem lkW.held {S' : zS} {hd' : Nat → Nat → Nat} (h : lkW S d A sr ss g hd ls) (h1 : zfr S S' pheld) (h2 : lheld S' hd') : lkW S' d A sr ss g hd' ls := by
  have h1 : ∀ f i j, f ≠ 512 → S' f i j = S f i j := fun f i j z => h1 f i j z
  obtain ⟨⟨sl, hsl, k1⟩, g1, g2, g3, g4, g5⟩ := h
  exact ⟨⟨sl, hsl, lkC_fr (fun f i j _ _ _ z _ _ => h1 f i j z) k1⟩, fun j hj => (h1 _ _ _ (by decide)).trans (g1 j hj), (h1 _ _ _ (by decide)).trans g2, (h1 _ _ _ (by decide)).trans g3, h2, fun k hk => (h1 _ _ _ (by decide)).trans (g5 k hk)⟩
-- behind the loser
theorem oclr0 (hW : lkW S d A sr ss g hd ls) (hwl : wlos ls) (hk : k < 40) (hB : aClr A ls k = (B, ls')) (h0 : S 576 0 k = 0) : lkW S d B sr ss g hd ls' ∧ wlos ls' := by
  have h1 := hwl k
  rw [hW.2.2.2.2.2 k hk, ← nI_0, nI_eq_iff (by omega) (by decide)] at h0
  unfold aClr at hB
  rw [if_pos h0] at hB
  cases hB
  exact ⟨hW, hwl⟩
theorem oclr1 (hW : lkW S d A sr ss g hd ls) (hwl : wlos ls) (hk : k < 40) (hB : aClr A ls k = (B, ls')) (hok : ls k ≠ 0 → okRl (ls k) (gN A) A) (h0 : ¬ S 576 0 k = 0) : zwp 24 (0, zent 24 [.inr (some (0, 0)), .inl (S 576 0 k)], [], (S, d)) (fun o u => ∃ S1 d1 v, o = .inl (some (.inl v)) ∧ u = (S1, d1) ∧ lkW S1 d1 B sr ss g hd ls' ∧ wlos ls' ∧ hi4 S S1) := by
  have h1 := hwl k
  have e576 := hW.2.2.2.2.2 k hk
  rw [e576, ← nI_0, nI_eq_iff (by omega) (by decide)] at h0
  unfold aClr at hB
  rw [if_neg h0] at hB
  rw [e576]
  cases hB
  refine zwp_mono (c24 hW.1 (hok h0) h1 hW.2.2.2.2.2 hwl) (fun o t h => ?_)
  obtain ⟨S1, d1, rfl, rfl, g1, g2, g3⟩ := h
  exact ⟨S1, d1, _, rfl, rfl, hW.roll g1 g2 g3, relL_w hwl, fun f i j hf => g3 f i j (by omega)⟩
-- get
theorem k1 (hW : lkW S d A sr ss g hd ls) (hsr : sr t ≠ 0) (hs2 : sr t < 2000) (ht : t < 4) (hk : k < 40) (hwl : wlos ls) (hwh : wheld hd) (hB : aClr A ls k = (B, ls')) (hok : ls k ≠ 0 → okRl (ls k) (gN A) A) (hw : wA B) (hki : kids B) :
    zwp 1 (0, zent 1 [.inr (some (0, 0)), .inl (nI t), .inl (nI k)], [], (S, d)) (fun o u => ∃ S' d', u = (S', d') ∧ hi4 S S' ∧ (((hd t k = 0 ∧ oth hd t k 2 = true) ∧ o = .inr 2 ∧ lkW S' d' B sr ss g hd ls') ∨ (¬ (hd t k = 0 ∧ oth hd t k 2 = true) ∧ o = (if k ∈ (gC (aDown B k).1 (aDown B k).2).2.1 then .inl (some (.inl (S' 896 (aDown B k).2 (lidx k (gC (aDown B k).1 (aDown B k).2).2.1)))) else .inr 3) ∧ lkW S' d' (aDown B k).1 sr ss g (if hd t k = 0 then up2 hd t k 1 else hd) ls'))) := by
  have hop : ¬ S 960 0 t = 0 := by
    rw [hW.2.1 t ht, ← nI_0, nI_eq_iff (by omega) (by decide)]
    exact hsr
  -- behind the loser: the lock, the way down
  have lck : ∀ (S1 : zS) (d1 : Nat), lkW S1 d1 B sr ss g hd ls' → hi4 S S1 → zwp 54 (0, zent 54 [.inr (some (6, 0)), .inl (nI t), .inl (nI k)], [], (S1, d1)) (zaf 1 45 [some (.inr (some (0, 0))), some (.inl (nI t)), some (.inl (nI k)), none, none] [] (fun o u => ∃ S' d', u = (S', d') ∧ hi4 S S' ∧ (((hd t k = 0 ∧ oth hd t k 2 = true) ∧ o = .inr 2 ∧ lkW S' d' B sr ss g hd ls') ∨ (¬ (hd t k = 0 ∧ oth hd t k 2 = true) ∧ o = (if k ∈ (gC (aDown B k).1 (aDown B k).2).2.1 then .inl (some (.inl (S' 896 (aDown B k).2 (lidx k (gC (aDown B k).1 (aDown B k).2).2.1)))) else .inr 3) ∧ lkW S' d' (aDown B k).1 sr ss g (if hd t k = 0 then up2 hd t k 1 else hd) ls')))) := by
    intro S1 d1 hW1 h41
    refine zwp_mono (c54 hW1.2.2.2.2.1 hwh ht hk) (fun o u h => ?_)
    rcases h with ⟨rfl, rfl, h0, h2⟩ | ⟨S2, rfl, rfl, f2, h2, h3⟩
    · exact ⟨S1, d1, rfl, h41, Or.inl ⟨⟨h0, h2⟩, rfl, hW1⟩⟩
    · have hW2 := hW1.held f2 h3
      have h42 : hi4 S S2 := fun f i j hf => (f2 f i j (show ¬ f = 512 by omega)).trans (h41 f i j hf)
      have hneg : ¬ (hd t k = 0 ∧ oth hd t k 2 = true) := fun z => by
        rw [h2 z.1] at z
        cases z.2
      obtain ⟨sl, hsl, hlC⟩ := id hW2.1
      obtain ⟨w1, w2, w3, w4, w5⟩ := down_w (key := k) 39 (aFix B 0) 0 (wA_fix hw (by decide)) (kids_fix hki) (by decide)
      rw [log_fix.2] at w5
      change wA (aDown B k).1 at w1
      change (aDown B k).2 < 40 at w3
      change gN (aDown B k).1 = gN B at w5
      refine w1_45 (zwp_mono (c28 (key := k) hlC hw hki) (fun o u h => ?_))
      obtain ⟨S3, rfl, rfl, k3, z3⟩ := h
      generalize aDown B k = D at w1 w3 w5 k3 ⊢
      have hW3 : lkW S3 d1 D.1 sr ss g (if hd t k = 0 then up2 hd t k 1 else hd) ls' := hW2.kp ⟨sl, by omega, k3⟩ z3
      have h43 : hi4 S S3 := fun f i j hf => (z3 f i j (by omega)).trans (h42 f i j hf)
      refine w1_54 ⟨D.2, rfl, w3, zwp_mono (c68 (k3.con w3) (w1.con _) (by omega)) (fun o u h => ?_)⟩
      obtain ⟨rfl, rfl⟩ := h
      have hwl := (w1.con D.2).1
      refine w1_64 ⟨fun hm => ?_, fun hm => ?_⟩
      · rw [zix_m1 (by omega)] at hm
        exact ⟨S3, d1, rfl, h43, Or.inr ⟨hneg, by rw [if_neg hm], hW3⟩⟩
      · rw [zix_m1 (by omega), Decidable.not_not] at hm
        have hlt := (lidx_mem hm).1
        exact ⟨lidx k (gC D.1 D.2).2.1, by unfold zix; rw [if_pos hm], by omega, S3, d1, rfl, h43, Or.inr ⟨hneg, by rw [if_pos hm], hW3⟩⟩
  refine w1_0 (zwp_mono (c20y ht hk) (fun o u h => ?_))
  obtain ⟨rfl, rfl⟩ := h
  refine w1_5 (zwp_mono (c21y ht hop) (fun o u h => ?_))
  obtain ⟨rfl, rfl⟩ := h
  refine w1_10 ⟨k, rfl, hk, fun h0 => lck S d (oclr0 hW hwl hk hB h0).1 (fun _ _ _ _ => rfl), fun h0 => ⟨k, rfl, hk, zwp_mono (oclr1 hW hwl hk hB hok h0) (fun o u h => ?_)⟩⟩
  obtain ⟨S1, d1, v, rfl, rfl, g1, g2, g3⟩ := h
  exact w1_35 (lck S1 d1 g1 g3)
-- put
theorem lkW.grow (h : lkW S d A sr ss g hd ls) : lkW (zu S 7 0 0 (nI (g + 1))) d A sr ss (g + 1) hd ls := by
  obtain ⟨⟨sl, hsl, k1⟩, g1, g2, g3, g4, g5⟩ := h
  have hk : ∀ f i j, f ≠ 7 → zu S 7 0 0 (nI (g + 1)) f i j = S f i j := fun f i j z => zu_f _ _ z
  exact ⟨⟨sl, hsl, lkC_fr (fun f i j _ _ z _ _ _ => hk f i j z) k1⟩, fun j hj => (hk _ _ _ (by decide)).trans (g1 j hj), (hk _ _ _ (by decide)).trans g2, zu_self _ _ _ _ _, fun t k ht hk2 => (hk _ _ _ (by decide)).trans (g4 t k ht hk2), fun k hk2 => (hk _ _ _ (by decide)).trans (g5 k hk2)⟩
theorem k2 {v : Int32} (hW : lkW S d A sr ss g hd ls) (hsr : sr t ≠ 0) (hs2 : sr t < 2000) (hg : g < 512) (ht : t < 4) (hk : k < 40) (hwl : wlos ls) (hwh : wheld hd) (hB : aClr A ls k = (B, ls')) (hok : ls k ≠ 0 → okRl (ls k) (gN A) A) (hw : wA B) (hki : kids B) (hoP : oth hd t k 1 = false → okP B k) :
    zwp 2 (0, zent 2 [.inr (some (0, 0)), .inl (nI t), .inl (nI k), .inl v], [], (S, d)) (fun o u => ∃ S' d', u = (S', d') ∧ hi4 S S' ∧ ((oth hd t k 1 = true ∧ o = .inr 2 ∧ lkW S' d' B sr ss g hd ls') ∨ (oth hd t k 1 = false ∧ o = .inl (some (.inl (nI (aPut B (sr t) k v 0).2))) ∧ lkW S' d' (aPut B (sr t) k v 0).1 sr ss (g + 1) (up2 hd t k 2) ls'))) := by
  have hop : ¬ S 960 0 t = 0 := by
    rw [hW.2.1 t ht, ← nI_0, nI_eq_iff (by omega) (by decide)]
    exact hsr
  have lck : ∀ (S1 : zS) (d1 : Nat), lkW S1 d1 B sr ss g hd ls' → hi4 S S1 → zwp 55 (0, zent 55 [.inr (some (6, 0)), .inl (nI t), .inl (nI k)], [], (S1, d1)) (zaf 2 45 [some (.inr (some (0, 0))), some (.inl (nI t)), some (.inl (nI k)), some (.inl v)] [] (fun o u => ∃ S' d', u = (S', d') ∧ hi4 S S' ∧ ((oth hd t k 1 = true ∧ o = .inr 2 ∧ lkW S' d' B sr ss g hd ls') ∨ (oth hd t k 1 = false ∧ o = .inl (some (.inl (nI (aPut B (sr t) k v 0).2))) ∧ lkW S' d' (aPut B (sr t) k v 0).1 sr ss (g + 1) (up2 hd t k 2) ls')))) := by
    intro S1 d1 hW1 h41
    refine zwp_mono (c55 hW1.2.2.2.2.1 hwh ht hk) (fun o u h => ?_)
    rcases h with ⟨rfl, rfl, h2⟩ | ⟨S2, rfl, rfl, f2, h2, h3⟩
    · exact ⟨S1, d1, rfl, h41, Or.inl ⟨h2, rfl, hW1⟩⟩
    · have hW2 := hW1.held f2 h3
      have h42 : hi4 S S2 := fun f i j hf => (f2 f i j (show ¬ f = 512 by omega)).trans (h41 f i j hf)
      refine w2_45 (zwp_mono (c22 hW2.2.2.2.1 hg) (fun o u h => ?_))
      obtain ⟨rfl, rfl⟩ := h
      have hW3 := hW2.grow
      have h43 : hi4 S (zu S2 7 0 0 (nI (g + 1))) := fun f i j hf => (zu_f _ _ (by omega)).trans (h42 f i j hf)
      generalize zu S2 7 0 0 (nI (g + 1)) = S3 at hW3 h43
      refine w2_49 ⟨fun _ => ⟨t, rfl, ht, ?_⟩, fun z => absurd i00 z⟩
      rw [hW3.2.1 t ht]
      refine zwp_mono (c25 (s := sr t) (k := k) (u := 0) (v := v) hW3.1 hw hki hk hs2 (Nat.zero_le _) (hoP h2)) (fun o u h => ?_)
      obtain ⟨S4, d4, rfl, rfl, k4, z4⟩ := h
      exact w2_67 ⟨S4, d4, rfl, fun f i j hf => (z4 f i j (by omega)).trans (h43 f i j hf), Or.inr ⟨h2, rfl, hW3.kp k4 z4⟩⟩
  refine w2_0 (zwp_mono (c20y ht hk) (fun o u h => ?_))
  obtain ⟨rfl, rfl⟩ := h
  refine w2_5 (zwp_mono (c21y ht hop) (fun o u h => ?_))
  obtain ⟨rfl, rfl⟩ := h
  refine w2_10 ⟨k, rfl, hk, fun h0 => lck S d (oclr0 hW hwl hk hB h0).1 (fun _ _ _ _ => rfl), fun h0 => ⟨k, rfl, hk, zwp_mono (oclr1 hW hwl hk hB hok h0) (fun o u h => ?_)⟩⟩
  obtain ⟨S1, d1, v, rfl, rfl, g1, g2, g3⟩ := h
  exact w2_35 (lck S1 d1 g1 g3)
-- remove
theorem k3 (hW : lkW S d A sr ss g hd ls) (hsr : sr t ≠ 0) (hs2 : sr t < 2000) (hg : g < 512) (ht : t < 4) (hk : k < 40) (hwl : wlos ls) (hwh : wheld hd) (hB : aClr A ls k = (B, ls')) (hok : ls k ≠ 0 → okRl (ls k) (gN A) A) (hw : wA B) (hki : kids B) (hn : gN B < 1144) (hlf : oth hd t k 1 = false → (gC (aDown B k).1 (aDown B k).2).1 = false) :
    zwp 3 (0, zent 3 [.inr (some (0, 0)), .inl (nI t), .inl (nI k)], [], (S, d)) (fun o u => ∃ S' d', u = (S', d') ∧ hi4 S S' ∧ ((oth hd t k 1 = true ∧ o = .inr 2 ∧ lkW S' d' B sr ss g hd ls') ∨ (oth hd t k 1 = false ∧ o = (if (aTake B (sr t) k 0 0).2 = 0 then .inr 3 else .inl (some (.inl (S' 207 (aTake B (sr t) k 0 0).2 0)))) ∧ lkW S' d' (aTake B (sr t) k 0 0).1 sr ss (g + 1) (up2 hd t k 2) ls'))) := by
  have hop : ¬ S 960 0 t = 0 := by
    rw [hW.2.1 t ht, ← nI_0, nI_eq_iff (by omega) (by decide)]
    exact hsr
  have ht2 : (aTake B (sr t) k 0 0).2 = 0 ∨ (aTake B (sr t) k 0 0).2 = gN B + 1 := by
    unfold aTake
    split
    · exact Or.inr rfl
    · exact Or.inl rfl
  have ht3 : (aTake B (sr t) k 0 0).2 ≠ 0 → gN (aTake B (sr t) k 0 0).1 = gN B + 1 := by
    obtain ⟨w1, w2, w3, w4, w5⟩ := down_w (key := k) 39 (aFix B 0) 0 (wA_fix hw (by decide)) (kids_fix hki) (by decide)
    rw [log_fix.2] at w5
    unfold aTake
    split
    · intro _
      show gN (aAdd _ _) = _
      rw [log_add.2]
      exact congrArg (· + 1) w5
    · intro z
      exact absurd rfl z
  have htn := aTake_n (s := sr t) (k := k) (u := 0) hw hki
  have lck : ∀ (S1 : zS) (d1 : Nat), lkW S1 d1 B sr ss g hd ls' → hi4 S S1 → zwp 55 (0, zent 55 [.inr (some (6, 0)), .inl (nI t), .inl (nI k)], [], (S1, d1)) (zaf 3 45 [some (.inr (some (0, 0))), some (.inl (nI t)), some (.inl (nI k)), none] [] (fun o u => ∃ S' d', u = (S', d') ∧ hi4 S S' ∧ ((oth hd t k 1 = true ∧ o = .inr 2 ∧ lkW S' d' B sr ss g hd ls') ∨ (oth hd t k 1 = false ∧ o = (if (aTake B (sr t) k 0 0).2 = 0 then .inr 3 else .inl (some (.inl (S' 207 (aTake B (sr t) k 0 0).2 0)))) ∧ lkW S' d' (aTake B (sr t) k 0 0).1 sr ss (g + 1) (up2 hd t k 2) ls')))) := by
    intro S1 d1 hW1 h41
    refine zwp_mono (c55 hW1.2.2.2.2.1 hwh ht hk) (fun o u h => ?_)
    rcases h with ⟨rfl, rfl, h2⟩ | ⟨S2, rfl, rfl, f2, h2, h3⟩
    · exact ⟨S1, d1, rfl, h41, Or.inl ⟨h2, rfl, hW1⟩⟩
    · have hW2 := hW1.held f2 h3
      have h42 : hi4 S S2 := fun f i j hf => (f2 f i j (show ¬ f = 512 by omega)).trans (h41 f i j hf)
      refine w3_45 (zwp_mono (c22 hW2.2.2.2.1 hg) (fun o u h => ?_))
      obtain ⟨rfl, rfl⟩ := h
      have hW3 := hW2.grow
      have h43 : hi4 S (zu S2 7 0 0 (nI (g + 1))) := fun f i j hf => (zu_f _ _ (by omega)).trans (h42 f i j hf)
      generalize zu S2 7 0 0 (nI (g + 1)) = S3 at hW3 h43
      obtain ⟨sl, hsl, hlC⟩ := id hW3.1
      refine w3_49 ⟨fun _ => ⟨t, rfl, ht, ?_⟩, fun z => absurd i00 z⟩
      rw [hW3.2.1 t ht]
      refine zwp_mono (c26 (s := sr t) (k := k) (u := 0) hlC hw hki hn hs2 hk (Nat.zero_le _) (by omega) (hlf h2)) (fun o u h => ?_)
      rw [aTake_sl hsl] at h
      obtain ⟨S4, d4, rfl, rfl, k4, z4⟩ := h
      have hW4 : lkW S4 d4 (aTake B (sr t) k 0 0).1 sr ss (g + 1) (up2 hd t k 2) ls' := hW3.kp ⟨sl, Nat.le_trans hsl htn, k4⟩ z4
      have h44 : hi4 S S4 := fun f i j hf => (z4 f i j (by omega)).trans (h43 f i j hf)
      have hd4 := k4.log.2.2.2.1
      generalize aTake B (sr t) k 0 0 = T at ht2 ht3 hW4 hd4 ⊢
      refine w3_66 ⟨fun h0 => ?_, fun h0 => ?_⟩
      · rw [← nI_0, nI_eq_iff (by omega) (by decide)] at h0
        exact ⟨S4, d4, rfl, h44, Or.inr ⟨h2, by rw [if_pos h0], hW4⟩⟩
      · rw [← nI_0, nI_eq_iff (by omega) (by decide)] at h0
        have := ht3 h0
        exact ⟨T.2, rfl, by omega, ⟨by omega, by omega⟩, S4, d4, rfl, h44, Or.inr ⟨h2, by rw [if_neg h0], hW4⟩⟩
  refine w3_0 (zwp_mono (c20y ht hk) (fun o u h => ?_))
  obtain ⟨rfl, rfl⟩ := h
  refine w3_5 (zwp_mono (c21y ht hop) (fun o u h => ?_))
  obtain ⟨rfl, rfl⟩ := h
  refine w3_10 ⟨k, rfl, hk, fun h0 => lck S d (oclr0 hW hwl hk hB h0).1 (fun _ _ _ _ => rfl), fun h0 => ⟨k, rfl, hk, zwp_mono (oclr1 hW hwl hk hB hok h0) (fun o u h => ?_)⟩⟩
  obtain ⟨S1, d1, v, rfl, rfl, g1, g2, g3⟩ := h
  exact w3_35 (lck S1 d1 g1 g3)
end OC
