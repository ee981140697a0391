/-! The reference: split. -/
theorem mlook_fr {S S' : zS} {c : aCon} (h : zfr S S' pmm) (hl : mlook S c) : mlook S' c := by
  have hk : ∀ f i j, (f = 1048 ∨ f = 1049 ∨ f = 1984 ∨ f = 2048) → S' f i j = S f i j := fun f i j hf => h f i j (fun z => by
    have z : f = 1025 ∨ f = 1026 ∨ f = 1036 ∨ f = 1038 ∨ (1043 ≤ f ∧ f ≤ 1047) ∨ (1088 ≤ f ∧ f ≤ 1920) := z
    omega)
  exact ⟨by rw [hk _ _ _ (by simp)]; exact hl.1, by rw [hk _ _ _ (by simp)]; exact hl.2.1, fun i x hx => by rw [hk _ _ _ (by simp)]; exact hl.2.2.1 i x hx, fun i x hx => by rw [hk _ _ _ (by simp)]; exact hl.2.2.2 i x hx⟩
theorem pmm_tr {S S1 S2 : zS} (h1 : zfr S S1 pmm) (h2 : zfr S1 S2 pmm) : zfr S S2 pmm := fun f i j h => (h2 f i j h).trans (h1 f i j h)
section SPL
variable {S : zS} {d ck : Nat}
-- a new page gets a half
theorem r87F {Q : zO → zT → Prop} {S0 : zS} {A : aSt} {c : aCon} {a L : Nat} (hl : lkM S ck A) (hw : wM A) (hi : inS A L) (hfr : frs A) (hlk : mlook S c) (h4 : c.2.1.length = 4) (hwc : wcon c) (ha : a = 0 ∨ a = 2) (hck : ck + 1 < 2 ^ 31) (hm : gM A < 40) (hn : gN A < 1144) (hL1 : gN A + 1 ≤ L) (hL : L < 2000) (hfm : fmts (gL A) (gN A) < 100) (hf0 : zfr S0 S pmm)
    (kk : ∀ (S' : zS), zfr S0 S' pmm → lkM S' (ck + 1) (aAdd (aFixN A (gM A)) (aFmt (gM A) L (cHalf c a))) → mlook S' c → wM (aAdd (aFixN A (gM A)) (aFmt (gM A) L (cHalf c a))) → inS (aAdd (aFixN A (gM A)) (aFmt (gM A) L (cHalf c a))) L → frs (aAdd (aFixN A (gM A)) (aFmt (gM A) L (cHalf c a))) → Q (.inl none) (S', d)) :
    zwp 87 (0, zent 87 [.inr (some (16, 0))], [], (S, d)) (fun o t => o = .inl (some (.inl (nI (gM A)))) ∧ zwp 89 (0, zent 89 [.inr (some (16, 0)), .inl (nI (gM A)), .inl (nI a), .inl (nI (a + 2)), .inl (nI L)], [], t) Q) := by
  obtain ⟨n1, n2, n3⟩ := hfr (gM A) (Nat.le_refl _)
  refine zwp_mono (r87 hl hw.1 hw.2.1 hck (by omega) n1 n2 n3) (fun o t h => ?_)
  obtain ⟨S1, rfl, rfl, f1, g1⟩ := h
  refine ⟨rfl, ?_⟩
  have hwB := wM_fixN (p := gM A) hw (by omega)
  have hiB := inS_fixN (p := gM A) hi
  have hN : gN (aFixN A (gM A)) = gN A := log_fixN.2
  have hLg : gL (aFixN A (gM A)) = gL A := log_fixN.1
  have hMM : gM (aFixN A (gM A)) = gM A := gM_fixN
  have hfr2 := frs_new (x := aFmt (gM A) L (cHalf c a)) hfr (by show 3 < 6; decide) rfl
  have hx : okr (aFixN A (gM A)) (aFmt (gM A) L (cHalf c a)) := okr_fmt (by omega) hL (half_w hwc h4 ha).1 (half_w hwc h4 ha).2
  generalize gM A = M at *
  generalize aFixN A M = B at *
  refine zwp_mono (r89 (m := M + 1) (p := M) (a := a) (L := L) g1 hwB.2.2.2.1 (mlook_fr f1 hlk) h4 ha (by omega) (by omega) (by omega) hL (by rw [hLg, hN]; exact hfm) (by rw [hMM]; exact Nat.max_eq_right (Nat.le_succ _))) (fun o t h => ?_)
  obtain ⟨S2, rfl, rfl, f2, g2⟩ := h
  exact kk S2 (pmm_tr hf0 (pmm_tr f1 f2)) g2 (mlook_fr (pmm_tr f1 f2) hlk) (wM_add hwB hiB hx rfl (by omega) (by omega) (fun z => absurd z (by show ¬ 3 = 2; decide))) (inS_add hiB rfl) hfr2
end SPL
section SPR
variable {S : zS} {d ck key : Nat} {A : aSt}
theorem mid_w {c : aCon} (hlk : mlook S c) (hw : wcon c) (h4 : c.2.1.length = 4) {Q : zO → zT → Prop} {x1 x2 x3 : Int32} (kk : zwp 91 (22, [some (.inr (some (16, 0))), some (.inl x1), some (.inl x2), some (.inl x3), none, none, none, none, none], [.inl (cMid c)], (S, d)) Q) : zwp 91 (0, zent 91 [.inr (some (16, 0)), .inl x1, .inl x2, .inl x3], [], (S, d)) Q := by
  refine w91_0 ⟨fun h0 => ⟨2, rfl, by decide, ?_⟩, fun h0 => ⟨1, rfl, by decide, ?_⟩⟩
  · rw [hlk.1, b2i_0] at h0
    obtain ⟨x, hx⟩ := lget (l := c.2.1) (i := 2) (by omega)
    unfold cMid at kk
    rw [h0, if_neg (by decide), List.getD_eq_getElem?_getD, hx] at kk
    rw [hlk.2.2.1 2 x hx]
    exact kk
  · have h1 : c.1 = true := by
      cases hb : c.1 with
      | true => rfl
      | false => rw [hlk.1, hb] at h0; exact absurd rfl h0
    have hlt := hw.2.2.1
    rw [h1, if_pos rfl, h4] at hlt
    obtain ⟨x, hx⟩ := lget (l := c.2.2) (i := 1) (by omega)
    unfold cMid at kk
    rw [h1, if_pos rfl, List.getD_eq_getElem?_getD, hx] at kk
    rw [hlk.2.2.2 1 x hx]
    exact kk
theorem r91R {x2 : Int32} (hl : lkM S ck A) (hw : wM A) (hwl : wln A) (hfr : frs A) (hlk : mlook S (gC A 0)) (h4 : (gC A 0).2.1.length = 4) (hck : ck + 3 < 2 ^ 31) (hm : gM A + 2 ≤ 40) (hn : gN A + 3 ≤ 1144) (hfm : fmts (gL A) (gN A) + 3 ≤ 100) : zwp 91 (0, zent 91 [.inr (some (16, 0)), .inl (nI 0), .inl x2, .inl (nI key)], [], (S, d)) (fun o t => ∃ S', o = .inl (some (.inl (nI (if cMid (gC A 0) ≤ nI key then gM A + 1 else gM A)))) ∧ t = (S', d) ∧ zfr S S' pmm ∧ lkM S' (ck + 3) (aSpR A)) := by
  have hwc := hw.1.con 0
  have h25 : S 1025 0 0 = nI (gN A) := hl.log.1
  refine mid_w hlk hwc h4 ?_
  have e3 : aSpR A = aAdd (aFix (aSp2 A) 0) (aFmt 0 (gN A + 3) (true, [gM A, gM A + 1], [cMid (gC A 0)])) := rfl
  have e2 : aSp2 A = aAdd (aFixN (aSp1 A) (gM A + 1)) (aFmt (gM A + 1) (gN A + 3) (cHalf (gC A 0) 2)) := rfl
  have e1 : aSp1 A = aAdd (aFixN A (gM A)) (aFmt (gM A) (gN A + 3) (cHalf (gC A 0) 0)) := rfl
  rw [e3, e2]
  generalize hc : gC A 0 = c at *
  refine w91_22 ⟨fun _ => ?_, fun z => absurd i00 z⟩
  rw [h25, nI_add]
  refine zwp_mono (r87F (S0 := S) (c := c) (a := 0) (L := gN A + 3) (Q := zaf 91 52 [some (.inr (some (16, 0))), some (.inl (nI 0)), some (.inl x2), some (.inl (nI key)), some (.inl (cMid c)), some (.inl (nI (gN A + 3))), some (.inl (nI (gM A))), none, none] [] (fun o t => ∃ S', o = .inl (some (.inl (nI (if cMid c ≤ nI key then gM A + 1 else gM A)))) ∧ t = (S', d) ∧ zfr S S' pmm ∧ lkM S' (ck + 3) (aAdd (aFix (aAdd (aFixN (aSp1 A) (gM A + 1)) (aFmt (gM A + 1) (gN A + 3) (cHalf c 2))) 0) (aFmt 0 (gN A + 3) (true, [gM A, gM A + 1], [cMid c]))))) hl hw (hwl.s _) hfr hlk h4 hwc (Or.inl rfl) (by omega) (by omega) (by omega) (by omega) (by omega) (by omega) (fun _ _ _ _ => rfl) (fun S1 f1 g1 k1 w1 i1 r1 => ?_)) (fun o t h => ?_)
  · rw [← e1] at g1 w1 i1 r1
    have hM1 : gM (aSp1 A) = gM A + 1 := by
      rw [e1, gM_add (by show 3 < 6; decide), gM_fixN]
      exact Nat.max_eq_right (Nat.le_succ _)
    have hN1 : gN (aSp1 A) = gN A + 1 := by
      rw [e1, log_add.2, log_fixN.2]
    have hF1 : fmts (gL (aSp1 A)) (gN (aSp1 A)) = fmts (gL A) (gN A) + 1 := by
      rw [e1, log_add.2, log_add.1, log_fixN.1, log_fixN.2, fmts, upL_self, if_pos (show rK (aFmt (gM A) (gN A + 3) (cHalf c 0)) = 3 from rfl), fmts_congr (lg := gL A) (fun i z1 z2 => up_pre z2)]
    generalize aSp1 A = A1 at *
    rw [← hM1]
    refine w91_52 (zwp_mono (r87F (S0 := S) (c := c) (a := 2) (L := gN A + 3) (Q := zaf 91 68 [some (.inr (some (16, 0))), some (.inl (nI 0)), some (.inl x2), some (.inl (nI key)), some (.inl (cMid c)), some (.inl (nI (gN A + 3))), some (.inl (nI (gM A))), some (.inl (nI (gM A1))), none] [] (fun o t => ∃ S', o = .inl (some (.inl (nI (if cMid c ≤ nI key then gM A1 else gM A)))) ∧ t = (S', d) ∧ zfr S S' pmm ∧ lkM S' (ck + 3) (aAdd (aFix (aAdd (aFixN A1 (gM A1)) (aFmt (gM A1) (gN A + 3) (cHalf c 2))) 0) (aFmt 0 (gN A + 3) (true, [gM A, gM A1], [cMid c]))))) g1 w1 i1 r1 k1 h4 hwc (Or.inr rfl) (by omega) (by omega) (by omega) (by omega) (by omega) (by omega) f1 (fun S2 f2 g2 k2 w2 i2 r2 => ?_)) (fun o t h => ?_))
    · have hN2 : gN (aAdd (aFixN A1 (gM A1)) (aFmt (gM A1) (gN A + 3) (cHalf c 2))) = gN A + 2 := by
        rw [log_add.2, log_fixN.2, hN1]
      have hF2 : fmts (gL (aAdd (aFixN A1 (gM A1)) (aFmt (gM A1) (gN A + 3) (cHalf c 2)))) (gN (aAdd (aFixN A1 (gM A1)) (aFmt (gM A1) (gN A + 3) (cHalf c 2)))) = fmts (gL A1) (gN A1) + 1 := by
        rw [log_add.2, log_add.1, log_fixN.1, log_fixN.2, fmts, upL_self, if_pos (show rK (aFmt (gM A1) (gN A + 3) (cHalf c 2)) = 3 from rfl), fmts_congr (lg := gL A1) (fun i z1 z2 => up_pre z2)]
      generalize aAdd (aFixN A1 (gM A1)) (aFmt (gM A1) (gN A + 3) (cHalf c 2)) = A2 at *
      refine w91_68 (zwp_mono (r90 (a := gM A) (b := gM A1) (s := cMid c) (L := gN A + 3) g2 w2 (by omega) (by omega) (by omega) (by omega) (by omega)) (fun o t h => ?_))
      obtain ⟨S3, rfl, rfl, f3, g3⟩ := h
      refine w91_80 ⟨fun z => ⟨S3, by rw [if_pos z], rfl, pmm_tr f2 f3, g3⟩, fun z => ⟨S3, by rw [if_neg z], rfl, pmm_tr f2 f3, g3⟩⟩
    · obtain ⟨rfl, h⟩ := h
      exact w91_56 h
  · obtain ⟨rfl, h⟩ := h
    exact w91_40 h
end SPR
