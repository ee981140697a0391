/-! The reference: get, put, remove, commit, abort, settle. -/
section R106
variable {Q : zO → zT → Prop} {S : zS} {d ck : Nat} {A B : aSt} {sr : Nat → Nat} {ss : Nat} {hd : Nat → Nat → Nat} {ls ls' : Nat → Nat} {k t : Nat}
theorem mkp_c {S S' : zS} {v : Int32} (h : mkp S S') : mkp S (zu S' 1024 0 0 v) := mkp.zu (by decide) h
theorem rtail {S : zS} {c : aCon} {k : Nat} (hk : mlook S c) (hw : wcon c) (hb : c.1 = false) (hm : k ∈ c.2.1) : S 2048 0 (lidx k c.2.1) = c.2.2.getD (lidx k c.2.1) 0 := by
  have hlt := (lidx_mem hm).1
  have hlt2 : lidx k c.2.1 < c.2.2.length := by
    rw [hw.2.2.1, hb, if_neg (by decide)]
    exact hlt
  obtain ⟨y, hy⟩ := lget hlt2
  rw [hk.2.2.2 _ _ hy, List.getD_eq_getElem?_getD, hy]
  rfl
theorem r106 (hq : lkQ S ck A sr ss hd) (hr : rG A) (hsr : ∀ j, sr j < 2000) (hso : sr t ≠ 0) (hwh : wheld hd) (ht : t < 4) (hk : k < 40) (hs2 : ss < 1000) (hR : lsR A sr ss ls) (hB : aClr A ls k = (B, ls')) (hok : ls k ≠ 0 → rokRl (ls k) (gN A) A) (hrB : rG B) (hRB : lsR B sr ss ls') (hck : ck + 400 * 1144 + 900 < 2 ^ 31) (h0 : 1 ≤ hd t k → ls k = 0 ∧ oth hd t k 2 = false) (hlf : (gC (aDown B k).1 (aDown B k).2).1 = false)
    (kkN : (hd t k = 0 ∧ oth hd t k 2 = true) → ∀ S' ck', lkQ S' ck' B sr ss hd → mkp S S' → ck' + 400 * gN A ≤ ck + 400 * gN B → S' 1024 0 0 = nI 2 → Q (.inl (some (.inl (nI 0)))) (S', d))
    (kkY : ¬ (hd t k = 0 ∧ oth hd t k 2 = true) → ∀ S' ck', lkQ S' ck' (aDown B k).1 sr ss (if hd t k = 0 then up2 hd t k 1 else hd) → mkp S S' → ck' + 400 * gN A ≤ ck + 400 * gN B + 40 → (k ∈ (gC (aDown B k).1 (aDown B k).2).2.1 → S' 1024 0 0 = nI 0 → Q (.inl (some (.inl ((gC (aDown B k).1 (aDown B k).2).2.2.getD (lidx k (gC (aDown B k).1 (aDown B k).2).2.1) 0)))) (S', d)) ∧ (k ∉ (gC (aDown B k).1 (aDown B k).2).2.1 → S' 1024 0 0 = nI 3 → Q (.inl (some (.inl (nI 0)))) (S', d))) :
    zwp 106 (0, zent 106 [.inr (some (16, 0)), .inl (nI t), .inl (nI k)], [], (S, d)) Q := by
  have hnA := hr.1.1.n
  have hnB := hrB.1.1.n
  have hw := hwh t k
  refine w106_0 (r105 (how := 1) hq hr hsr hso hwh ht hk hs2 (Or.inl rfl) hR hB hok hrB hRB (by omega) h0 (fun q o S1 ck1 q1 z1 c1 => ?_) (fun q S1 ck1 q1 z1 c1 => ?_))
  · refine w106_8 ⟨fun z => absurd z (by decide), fun _ => kkN ⟨by omega, o⟩ _ ck1 q1.c (mkp_c z1) c1 (zu_self _ _ _ _ _)⟩
  · have hq0 : ¬ (hd t k = 0 ∧ oth hd t k 2 = true) := fun z => by
      rcases q with q | q
      · omega
      · have q : oth hd t k 2 = false := q
        rw [z.2] at q
        cases q
    have e : (if 1 ≤ hd t k then hd else up2 hd t k 1) = if hd t k = 0 then up2 hd t k 1 else hd := by
      by_cases h : hd t k = 0
      · rw [if_neg (by omega), if_pos h]
      · rw [if_pos (by omega), if_neg h]
    rw [e] at q1
    have q2 := q1.c (v := nI 0)
    obtain ⟨r1, -, -, -, -⟩ := aDown_k (key := k) hrB
    refine w106_8 ⟨fun _ => ?_, fun z => absurd (by decide) z⟩
    refine r93 (key := k) q2.1 hrB (by omega) hlf (fun S2 ck2 g2 k2 c2 z2 => ?_)
    have q3 := q2.ml z2 g2
    have hc2 : S2 1024 0 0 = nI 0 := (pml_c z2).trans (zu_self _ _ _ _ _)
    have hm2 : mkp S S2 := mkp.tr (mkp_c z1) (mkp_l z2)
    have hwl := (r1.1.1.con (aDown B k).2).1
    refine w106_25 (zwp_mono (r82 k2 (r1.1.1.con _) (by omega)) (fun o u h => ?_))
    obtain ⟨rfl, rfl⟩ := h
    by_cases hm : k ∈ (gC (aDown B k).1 (aDown B k).2).2.1
    · have hlt := (lidx_mem hm).1
      rw [zix_in hm]
      refine w106_31 ⟨fun _ => ⟨_, rfl, by omega, ?_⟩, fun z => absurd (by rw [← nI_0, nI_le_iff (by decide) (by omega)]; omega) z⟩
      rw [rtail k2 (r1.1.1.con _) hlf hm]
      exact (kkY hq0 S2 ck2 q3 hm2 (by omega)).1 hm hc2
    · rw [zix_out hm]
      refine w106_31 ⟨fun z => absurd z (by decide), fun _ => zwp_mono r76 (fun o u h => ?_)⟩
      obtain ⟨rfl, rfl⟩ := h
      exact w106_41 ((kkY hq0 _ ck2 q3.c (mkp_c hm2) (by omega)).2 hm (zu_self _ _ _ _ _))
theorem r107 {v : Int32} (hq : lkQ S ck A sr ss hd) (hr : rG A) (hsr : ∀ j, sr j < 2000) (hso : sr t ≠ 0) (hwh : wheld hd) (ht : t < 4) (hk : k < 40) (hs2 : ss < 1000) (hR : lsR A sr ss ls) (hB : aClr A ls k = (B, ls')) (hok : ls k ≠ 0 → rokRl (ls k) (gN A) A) (hrB : rG B) (hRB : lsR B sr ss ls') (hck : ck + 400 * 1144 + 900 < 2 ^ 31) (h0 : 2 ≤ hd t k → ls k = 0 ∧ oth hd t k 1 = false) (hp : oth hd t k 1 = false → rokP B k)
    (kkN : oth hd t k 1 = true → ∀ S' ck', lkQ S' ck' B sr ss hd → mkp S S' → ck' + 400 * gN A ≤ ck + 400 * gN B → S' 1024 0 0 = nI 2 → Q (.inl (some (.inl (nI 0)))) (S', d))
    (kkY : oth hd t k 1 = false → ∀ S' ck', lkQ S' ck' (aPut B (sr t) k v 0).1 sr ss (up2 hd t k 2) → mkp S S' → ck' + 400 * gN A ≤ ck + 400 * gN B + 300 → S' 1024 0 0 = nI 0 → Q (.inl (some (.inl (nI (aPut B (sr t) k v 0).2)))) (S', d)) :
    zwp 107 (0, zent 107 [.inr (some (16, 0)), .inl (nI t), .inl (nI k), .inl v], [], (S, d)) Q := by
  have hnA := hr.1.1.n
  have hnB := hrB.1.1.n
  have hw := hwh t k
  refine w107_0 (r105 (how := 2) hq hr hsr hso hwh ht hk hs2 (Or.inr rfl) hR hB hok hrB hRB (by omega) h0 (fun q o S1 ck1 q1 z1 c1 => ?_) (fun q S1 ck1 q1 z1 c1 => ?_))
  · exact w107_8 ⟨fun z => absurd z (by decide), fun _ => w107_34 (kkN o _ ck1 q1.c (mkp_c z1) c1 (zu_self _ _ _ _ _))⟩
  · have ho : oth hd t k 1 = false := by
      rcases q with q | q
      · exact (h0 q).2
      · exact q
    have e : (if 2 ≤ hd t k then hd else up2 hd t k 2) = up2 hd t k 2 := by
      by_cases h : 2 ≤ hd t k
      · rw [if_pos h, up2_same (by omega)]
      · rw [if_neg h]
    rw [e] at q1
    have q2 := q1.c (v := nI 0)
    refine w107_8 ⟨fun _ => ⟨t, rfl, ht, ?_⟩, fun z => absurd (by decide) z⟩
    rw [q1.2.1 t ht]
    refine r95 (s := sr t) (u := 0) (v := v) q2.1 hrB (hp ho) hk (hsr t) q2.2.2.2.2 (by decide) (by omega) (fun S2 ck2 z2 g2 c2 => ?_)
    exact w107_34 (kkY ho S2 ck2 (q2.ml z2 g2) (mkp.tr (mkp_c z1) (mkp_l z2)) (by omega) ((pml_c z2).trans (zu_self _ _ _ _ _)))
theorem r108 (hq : lkQ S ck A sr ss hd) (hr : rG A) (hsr : ∀ j, sr j < 2000) (hso : sr t ≠ 0) (hwh : wheld hd) (ht : t < 4) (hk : k < 40) (hs2 : ss < 1000) (hR : lsR A sr ss ls) (hB : aClr A ls k = (B, ls')) (hok : ls k ≠ 0 → rokRl (ls k) (gN A) A) (hrB : rG B) (hRB : lsR B sr ss ls') (hck : ck + 400 * 1144 + 900 < 2 ^ 31) (h0 : 2 ≤ hd t k → ls k = 0 ∧ oth hd t k 1 = false) (hn : gN B < 1144) (hlf : (gC (aDown B k).1 (aDown B k).2).1 = false)
    (kkN : oth hd t k 1 = true → ∀ S' ck', lkQ S' ck' B sr ss hd → mkp S S' → ck' + 400 * gN A ≤ ck + 400 * gN B → S' 1024 0 0 = nI 2 → Q (.inl (some (.inl (nI 0)))) (S', d))
    (kkY : oth hd t k 1 = false → ∀ S' ck', lkQ S' ck' (aTake B (sr t) k 0 0).1 sr ss (up2 hd t k 2) → mkp S S' → ck' + 400 * gN A ≤ ck + 400 * gN B + 300 → (k ∈ (gC (aDown B k).1 (aDown B k).2).2.1 → S' 1024 0 0 = nI 0 → Q (.inl (some (.inl (aOld k (gC (aDown B k).1 (aDown B k).2))))) (S', d)) ∧ (k ∉ (gC (aDown B k).1 (aDown B k).2).2.1 → S' 1024 0 0 = nI 3 → Q (.inl (some (.inl (nI 0)))) (S', d))) :
    zwp 108 (0, zent 108 [.inr (some (16, 0)), .inl (nI t), .inl (nI k)], [], (S, d)) Q := by
  have hnA := hr.1.1.n
  have hnB := hrB.1.1.n
  have hw := hwh t k
  refine w108_0 (r105 (how := 2) hq hr hsr hso hwh ht hk hs2 (Or.inr rfl) hR hB hok hrB hRB (by omega) h0 (fun q o S1 ck1 q1 z1 c1 => ?_) (fun q S1 ck1 q1 z1 c1 => ?_))
  · exact w108_8 ⟨fun z => absurd z (by decide), fun _ => kkN o _ ck1 q1.c (mkp_c z1) c1 (zu_self _ _ _ _ _)⟩
  · have ho : oth hd t k 1 = false := by
      rcases q with q | q
      · exact (h0 q).2
      · exact q
    have e : (if 2 ≤ hd t k then hd else up2 hd t k 2) = up2 hd t k 2 := by
      by_cases h : 2 ≤ hd t k
      · rw [if_pos h, up2_same (by omega)]
      · rw [if_neg h]
    rw [e] at q1
    have q2 := q1.c (v := nI 0)
    obtain ⟨r1, r2, r3, r4, r5⟩ := aDown_k (key := k) hrB
    have eM : gM (aDown B k).1 = gM B := by
      unfold gM
      rw [r4, r5]
    have kkY := kkY ho
    have eT : aTake B (sr t) k 0 0 = if k ∈ (gC (aDown B k).1 (aDown B k).2).2.1 then (aAdd (aDown B k).1 (aChg 2 (aDown B k).2 (sr t) 0 (aLast 0 (gN B)) k 0 (gC (aDown B k).1 (aDown B k).2)), gN B + 1) else ((aDown B k).1, 0) := rfl
    rw [eT, aLast_e (Nat.zero_le _)] at kkY
    refine w108_8 ⟨fun _ => ?_, fun z => absurd (by decide) z⟩
    refine r93 (key := k) q2.1 hrB (by omega) hlf (fun S2 ck2 g2 k2 c2 z2 => ?_)
    have q3 := q2.ml z2 g2
    have hc2 : S2 1024 0 0 = nI 0 := (pml_c z2).trans (zu_self _ _ _ _ _)
    have hm2 : mkp S S2 := mkp.tr (mkp_c z1) (mkp_l z2)
    generalize aDown B k = D at *
    have hwl := (r1.1.1.con D.2).1
    refine w108_25 (zwp_mono (r82 k2 (r1.1.1.con _) (by omega)) (fun o u h => ?_))
    obtain ⟨rfl, rfl⟩ := h
    by_cases hm : k ∈ (gC D.1 D.2).2.1
    · have hlt := (lidx_mem hm).1
      rw [if_pos hm] at kkY
      rw [zix_in hm]
      refine w108_31 ⟨fun _ => ⟨_, rfl, by omega, t, rfl, ht, ?_⟩, fun z => absurd (by rw [← nI_0, nI_le_iff (by decide) (by omega)]; omega) z⟩
      rw [q3.2.1 t ht, rtail k2 (r1.1.1.con _) hlf hm]
      refine r94 (K := 2) (u := 0) (v := 0) g2 r1 (by omega) r3 hlf q3.2.2.2.2 (by decide) (hsr t) hk (Or.inr rfl) (fun z => absurd z (by decide)) (by omega) (by omega) (fun S3 z3 g3 => ?_)
      rw [r5] at g3
      have := (kkY S3 (ck2 + 1) (q3.ml z3 g3) (mkp.tr hm2 (mkp_l z3)) (by omega)).1 hm ((pml_c z3).trans hc2)
      unfold aOld at this
      rw [if_pos hm] at this
      exact w108_67 this
    · rw [if_neg hm] at kkY
      rw [zix_out hm]
      refine w108_31 ⟨fun z => absurd z (by decide), fun _ => zwp_mono r76 (fun o u h => ?_)⟩
      obtain ⟨rfl, rfl⟩ := h
      exact w108_43 ((kkY _ ck2 q3.c (mkp_c hm2) (by omega)).2 hm (zu_self _ _ _ _ _))
-- a place is left
theorem r103Q {S S' : zS} (h : lkQ S ck A sr ss hd) (ht : t < 4) (h1 : zfr S S' (fun f _ => f = 2112 ∨ f = 2176)) (h2 : ∀ j, S' 2112 0 j = if j = t then nI 0 else S 2112 0 j) (h3 : ∀ j, S' 2176 0 j = if 40 * t ≤ j ∧ j < 40 * t + 40 then nI 0 else S 2176 0 j) : lkQ S' ck A (clS sr t) ss (clH hd t) := by
  have hf : ∀ f i j, f ≠ 2112 → f ≠ 2176 → S' f i j = S f i j := fun f i j q1 q2 => h1 f i j (fun z => z.elim q1 q2)
  refine ⟨lkM_fr (fun f i j z => hf f i j (fun q => ?_) (fun q => ?_)) h.1, fun j hj => ?_, (hf _ _ _ (by decide) (by decide)).trans h.2.2.1, fun u k hu hk => ?_, (hf _ _ _ (by decide) (by decide)).trans h.2.2.2.2⟩
  · rw [q] at z
    have z : 2112 = 1025 ∨ 2112 = 1026 ∨ 2112 = 1036 ∨ 2112 = 1038 ∨ (1043 ≤ 2112 ∧ 2112 ≤ 1047) ∨ (1088 ≤ 2112 ∧ 2112 ≤ 1920) := z
    omega
  · rw [q] at z
    have z : 2176 = 1025 ∨ 2176 = 1026 ∨ 2176 = 1036 ∨ 2176 = 1038 ∨ (1043 ≤ 2176 ∧ 2176 ≤ 1047) ∨ (1088 ≤ 2176 ∧ 2176 ≤ 1920) := z
    omega
  · rw [h2 j]
    unfold clS
    by_cases e : j = t
    · rw [if_pos e, if_pos e]
    · rw [if_neg e, if_neg e]
      exact h.2.1 j hj
  · rw [h3]
    unfold clH
    by_cases e : u = t
    · rw [if_pos e, if_pos (by omega)]
    · rw [if_neg e, if_neg (by omega)]
      exact h.2.2.2.1 u k hu hk
theorem lkM_fo {S S' : zS} {m : Nat} (hl : lkM S ck A) (hf : ∀ f i j, f ≠ 1026 → S' f i j = S f i j) (h26 : S' 1026 0 0 = nI (aForce (gL A) m (gFo A))) : lkM S' ck (stFo A m) := by
  obtain ⟨lg, n, fo, im, dm, bk, pl, r, w, e, q⟩ := A
  obtain ⟨l1, l2, l3, l4, l5, l6, l7, l8⟩ := hl
  exact ⟨mlog_congr (fun f i j h => hf f i j (by omega)) h26 l1, by rw [hf _ _ _ (by decide)]; exact l2, fun p hp => mpg_congr (fun f h => hf f 0 p (by omega)) (l3 p hp), mpool_congr (fun f j h => hf f 0 j (by omega)) l4, by rw [hf _ _ _ (by decide)]; exact l5, by rw [hf _ _ _ (by decide)]; exact l6, by rw [hf _ _ _ (by decide)]; exact l7, by rw [hf _ _ _ (by decide)]; exact l8⟩
theorem r109 (hq : lkQ S ck A sr ss hd) (hr : rG A) (hsr : ∀ j, sr j < 2000) (hso : sr t ≠ 0) (ht : t < 4) (hn : gN A < 1144)
    (kk : ∀ S', lkQ S' ck (aCommit A (sr t)) (clS sr t) ss (clH hd t) → mkp S S' → S' 1024 0 0 = nI 0 → Q (.inl (some (.inl (nI (gN A + 1))))) (S', d)) :
    zwp 109 (0, zent 109 [.inr (some (16, 0)), .inl (nI t)], [], (S, d)) Q := by
  have hst := hsr t
  have hop : ¬ S 2112 0 t = 0 := by
    rw [hq.2.1 t ht, ← nI_0, nI_eq_iff (by omega) (by decide)]
    exact hso
  refine w109_0 (zwp_mono (r96y ht) (fun o u h => ?_))
  obtain ⟨rfl, rfl⟩ := h
  refine w109_6 ⟨fun z => absurd z i01, fun _ => ⟨t, rfl, ht, fun z => absurd z hop, fun _ => ?_⟩⟩
  have q1 := hq.c (v := nI 0)
  refine w109_27 ⟨fun _ => zwp_mono (r88 (K := 6) (p := 0) q1.1.n.size (by omega) (by decide) (by decide)) (fun o u h => ?_), fun z => absurd (by decide) z⟩
  obtain ⟨S2, rfl, rfl, f2, u25, u88, u52, u16, u36, u00⟩ := h
  obtain ⟨g3, z3⟩ := rEnd q1.1 hr (Or.inl rfl) hst f2 u25 u88 u36 u00
  have e2112 : S2 2112 0 t = nI (sr t) := (f2 _ _ _ (by omega)).trans (q1.2.1 t ht)
  refine w109_46 ⟨t, rfl, ht, gN A + 1, rfl, by omega, ?_⟩
  rw [e2112, nars (by omega)]
  have hrE := rG_end hr (K := 6) (Or.inl rfl) hst hn
  have q3 := q1.ml (pml_m pml_rf z3) g3
  have hc3 : zu S2 1216 0 (gN A + 1) (nI (sr t)) 1024 0 0 = nI 0 := (pml_c (pml_m pml_rf z3)).trans (zu_self _ _ _ _ _)
  have hm3 : mkp S (zu S2 1216 0 (gN A + 1) (nI (sr t))) := mkp.tr (mkp_c (mkp.rf S)) (mkp_l (pml_m pml_rf z3))
  generalize zu S2 1216 0 (gN A + 1) (nI (sr t)) = S3 at *
  have hN : gN (aEnd A 6 (sr t)) = gN A + 1 := rfl
  have hL : rL (gL (aEnd A 6 (sr t)) (gN A + 1)) = gN A + 1 := by
    show rL (upL (gL A) (gN A + 1) _ (gN A + 1)) = _
    rw [upL_self]
    rfl
  have hfo : gFo (aEnd A 6 (sr t)) ≤ gN A := hr.2.1.2
  have eC : aCommit A (sr t) = stFo (aEnd A 6 (sr t)) (gN A + 1) := rfl
  rw [eC] at kk
  generalize aEnd A 6 (sr t) = E at *
  refine zwp_mono (r83 (m := gN A + 1) q3.1.log hrE.1.1.log (by omega) (by omega) (by omega) (fun z => by omega)) (fun o u h => ?_)
  obtain ⟨rfl, rfl⟩ := h
  rw [if_pos (by omega), hL]
  have g4 := lkM_fo (S' := zu S3 1026 0 0 (nI (gN A + 1))) (m := gN A + 1) q3.1 (fun f i j z => zu_f _ _ z) (by
    rw [zu_self]
    unfold aForce
    rw [hL, if_pos (by omega)])
  have q4 := q3.ml (S' := zu S3 1026 0 0 (nI (gN A + 1))) (fun f i j z => zu_f _ _ (fun e => z (Or.inl (by rw [e]; exact Or.inr (Or.inl rfl))))) g4
  refine w109_65 (zwp_mono (r103 ht) (fun o u h => ?_))
  obtain ⟨S5, rfl, rfl, f5, g5, g6⟩ := h
  refine w109_70 (kk S5 (r103Q q4 ht f5 g5 g6) (fun f i j hf => ?_) ?_)
  · rw [f5 f i j (by omega), zu_f _ _ (by omega)]
    exact hm3 f i j hf
  · rw [f5 _ _ _ (by omega), zu_f _ _ (by decide)]
    exact hc3
theorem r110 (hq : lkQ S ck A sr ss hd) (hsr : ∀ j, sr j < 2000) (hso : sr t ≠ 0) (ht : t < 4) (hok : rokRl (sr t) (gN A) A) (hck : ck + 400 * 1144 + 900 < 2 ^ 31)
    (kk : ∀ S' ck', lkQ S' ck' (aRoll A (sr t)).1 (clS sr t) ss (clH hd t) → mkp S S' → ck' + 400 * gN A ≤ ck + 400 * gN (aRoll A (sr t)).1 → S' 1024 0 0 = nI 0 → Q (.inl (some (.inl (nI (aRoll A (sr t)).2)))) (S', d)) :
    zwp 110 (0, zent 110 [.inr (some (16, 0)), .inl (nI t)], [], (S, d)) Q := by
  have hst := hsr t
  have hop : ¬ S 2112 0 t = 0 := by
    rw [hq.2.1 t ht, ← nI_0, nI_eq_iff (by omega) (by decide)]
    exact hso
  refine w110_0 (zwp_mono (r96y ht) (fun o u h => ?_))
  obtain ⟨rfl, rfl⟩ := h
  refine w110_6 ⟨fun z => absurd z i01, fun _ => ⟨t, rfl, ht, fun z => absurd z hop, fun _ => ?_⟩⟩
  have q1 := hq.c (v := nI 0)
  refine w110_27 ⟨fun _ => ⟨t, rfl, ht, ?_⟩, fun z => absurd (by decide) z⟩
  rw [hq.2.1 t ht]
  refine r100 hst q1.1 hok q1.2.2.2.2 (by omega) (fun S2 ck2 g2 z2 u2 c2 => ?_)
  have q2 := q1.mu z2 u2 g2
  refine w110_49 (zwp_mono (r103 ht) (fun o u h => ?_))
  obtain ⟨S5, rfl, rfl, f5, g5, g6⟩ := h
  refine w110_55 (kk S5 ck2 (r103Q q2 ht f5 g5 g6) (fun f i j hf => ?_) c2 ?_)
  · rw [f5 f i j (by omega)]
    exact (mkp_u z2 f i j hf).trans (zu_f _ _ (by omega))
  · rw [f5 _ _ _ (by omega), z2 _ _ _ (pmu_n (by omega))]
    exact zu_self _ _ _ _ _
end R106
-- the least loser
theorem lla_0 {ls : Nat → Nat} : ∀ {n : Nat}, (∀ k, k < n → ls k = 0) → lla ls 0 n = 0
  | 0, _ => rfl
  | n + 1, h => by
    rw [lla, if_pos (by rw [h n (by omega)]; exact Nat.le_refl _)]
    exact lla_0 (fun k hk => h k (by omega))
theorem lla_ge {ls : Nat → Nat} {s : Nat} : ∀ {n : Nat}, (∀ k, k < n → ls k = 0 ∨ s ≤ ls k) → lla ls 0 n = 0 ∨ s ≤ lla ls 0 n
  | 0, _ => Or.inl rfl
  | n + 1, h => by
    have ih := lla_ge (ls := ls) (s := s) (n := n) (fun k hk => h k (by omega))
    have h1 := h n (by omega)
    rw [lla]
    split
    · exact ih
    · split
      · omega
      · split
        · exact ih
        · omega
theorem lla_at {ls : Nat → Nat} {s : Nat} (hs : 1 ≤ s) : ∀ {n : Nat}, (∀ k, k < n → ls k = 0 ∨ s ≤ ls k) → (∃ k, k < n ∧ ls k = s) → lla ls 0 n = s
  | 0, _, ⟨k, hk, _⟩ => by omega
  | n + 1, h, ⟨k, hk, hks⟩ => by
    have hn := h n (by omega)
    have ig := lla_ge (ls := ls) (s := s) (n := n) (fun k hk => h k (by omega))
    rw [lla]
    by_cases e : ls n = s
    · rw [if_neg (by omega)]
      by_cases e0 : lla ls 0 n = 0
      · rw [if_pos e0, e]
      · rw [if_neg e0]
        split <;> omega
    · have hk2 : k < n := by
        by_cases e2 : k = n
        · rw [e2] at hks
          exact absurd hks e
        · omega
      have ih := lla_at hs (n := n) (fun k hk => h k (by omega)) ⟨k, hk2, hks⟩
      rw [ih]
      split
      · rfl
      · rw [if_neg (by omega), if_pos (by omega)]
def lsS (A : aSt) (sr : Nat → Nat) (ss : Nat) (ls : Nat → Nat) : Prop := (∀ k, k < 40 → ls k ≤ ss) ∧ ∀ s, 1 ≤ s → s ≤ ss → (isLo (gL A) (gN A) sr s = true ↔ ∃ k, k < 40 ∧ ls k = s)
def rokSe (sr : Nat → Nat) (ss : Nat) : Nat → aSt → (Nat → Nat) → Prop
  | 0, A, ls => rG A ∧ lsS A sr ss ls ∧ lla ls 0 40 = 0
  | f + 1, A, ls => rG A ∧ lsS A sr ss ls ∧ (lla ls 0 40 ≠ 0 → rokRl (lla ls 0 40) (gN A) A ∧ rokSe sr ss f (aRoll A (lla ls 0 40)).1 (relL ls (lla ls 0 40)))
theorem rokSe.r {sr : Nat → Nat} {ss f : Nat} {A : aSt} {ls : Nat → Nat} (h : rokSe sr ss f A ls) : rG A ∧ lsS A sr ss ls := by
  cases f with
  | zero => exact ⟨h.1, h.2.1⟩
  | succ f => exact ⟨h.1, h.2.1⟩
section R111
variable {Q : zO → zT → Prop} {S0 : zS} {d : Nat} {sr : Nat → Nat} {ss : Nat} {hd : Nat → Nat → Nat}
theorem r111L (hsr : ∀ j, sr j < 2000) (hs2 : ss < 1000) : ∀ (r s f : Nat) (A : aSt) (ls : Nat → Nat) (c ck : Nat) (S : zS), s + r = ss + 1 → 1 ≤ s → rokSe sr ss f A ls → (∀ k, k < 40 → ls k = 0 ∨ s ≤ ls k) → lkQ S ck A sr ss hd → mkp S0 S → S 1024 0 0 = nI 0 → ck + 400 * (1144 - gN A) + 900 < 2 ^ 31 → (∀ (S' : zS) (ck' : Nat), lkQ S' ck' (aSettL f A ls c).1 sr ss hd → mkp S0 S' → S' 1024 0 0 = nI 0 → ck' + 400 * gN A ≤ ck + 400 * gN (aSettL f A ls c).1 → Q (.inl (some (.inl (nI (aSettL f A ls c).2.2)))) (S', d)) → zwp 111 (9, [some (.inr (some (16, 0))), some (.inl (nI c)), some (.inl (nI s))], [], (S, d)) Q
  | 0, s, f, A, ls, c, ck, S, hs, hs1, hok, hge, hq, hm, hc, hck, hQ => by
    have h0 : lla ls 0 40 = 0 := lla_0 (fun k hk => by
      have := hok.r.2.1 k hk
      have := hge k hk
      omega)
    have e : aSettL f A ls c = (A, ls, c) := by
      cases f with
      | zero => rfl
      | succ f => rw [aSettL, if_pos h0]
    rw [e] at hQ
    refine w111_9 ⟨fun _ => hQ S ck hq hm hc (Nat.le_refl _), fun z => absurd ?_ z⟩
    rw [hq.2.2.1, nI_lt_iff (by omega) (by omega)]
    omega
  | r + 1, s, f, A, ls, c, ck, S, hs, hs1, hok, hge, hq, hm, hc, hck, hQ => by
    obtain ⟨hr, hS⟩ := hok.r
    have hi := hS.2 s hs1 (by omega)
    refine w111_9 ⟨fun z => ?_, fun _ => zwp_mono (r98 hq.1.log hr.1.1.log hq.2.1 hsr (by omega)) (fun o u h => ?_)⟩
    · rw [hq.2.2.1, nI_lt_iff (by omega) (by omega)] at z
      omega
    obtain ⟨rfl, rfl⟩ := h
    cases hb : isLo (gL A) (gN A) sr s with
    | false =>
      refine w111_22 ⟨fun _ => ?_, fun z => absurd i00 z⟩
      rw [nI_add]
      refine r111L hsr hs2 r (s + 1) f A ls c ck S (by omega) (by omega) hok (fun k hk => ?_) hq hm hc hck hQ
      have h1 := hge k hk
      have h2 : ls k ≠ s := fun z => by
        rw [hi.mpr ⟨k, hk, z⟩] at hb
        cases hb
      omega
    | true =>
      have hat := lla_at hs1 hge (hi.mp hb)
      refine w111_22 ⟨fun z => absurd z i01, fun _ => ?_⟩
      cases f with
      | zero =>
        have := hok.2.2
        omega
      | succ f =>
        obtain ⟨-, -, o3⟩ := hok
        obtain ⟨o4, o5⟩ := o3 (by omega)
        rw [hat] at o4 o5
        have e : aSettL (f + 1) A ls c = aSettL f (aRoll A s).1 (relL ls s) (c + 1) := by
          rw [aSettL, if_neg (by omega), hat]
        rw [e] at hQ
        have hgm := o5.r.1.1.1.n
        refine r100 (by omega) hq.1 o4 hq.2.2.2.2 (by omega) (fun S1 ck1 g1 z1 u1 c1 => ?_)
        refine w111_30 ?_
        rw [nI_add, nI_add]
        refine r111L hsr hs2 r (s + 1) f (aRoll A s).1 (relL ls s) (c + 1) ck1 S1 (by omega) (by omega) o5 (fun k hk => ?_) (hq.mu z1 u1 g1) (mkp.tr hm (mkp_u z1)) ((z1 _ _ _ (pmu_n (by omega))).trans hc) (by omega) (fun S' ck' p1 p2 p3 p4 => hQ S' ck' p1 p2 p3 (by omega))
        unfold relL
        have h1 := hge k hk
        split
        · exact Or.inl rfl
        · omega
theorem r111 {S : zS} {ck : Nat} {A : aSt} {ls : Nat → Nat} (hsr : ∀ j, sr j < 2000) (hs2 : ss < 1000) (hok : rokSe sr ss 40 A ls) (hq : lkQ S ck A sr ss hd) (hck : ck + 400 * 1144 + 900 < 2 ^ 31) (kk : ∀ (S' : zS) (ck' : Nat), lkQ S' ck' (aSettL 40 A ls 0).1 sr ss hd → mkp S S' → S' 1024 0 0 = nI 0 → ck' + 400 * gN A ≤ ck + 400 * gN (aSettL 40 A ls 0).1 → Q (.inl (some (.inl (nI (aSettL 40 A ls 0).2.2)))) (S', d)) : zwp 111 (0, zent 111 [.inr (some (16, 0))], [], (S, d)) Q :=
  w111_0 (r111L (hd := hd) hsr hs2 ss 1 40 A ls 0 ck (zu S 1024 0 0 (nI 0)) (by omega) (Nat.le_refl _) hok (fun k _ => by omega) hq.c (mkp_c (mkp.rf S)) (zu_self _ _ _ _ _) (by omega) kk)
end R111
