/-! Splits, in the class: splitBelow. -/
def aSb1 (A : aSt) (f : Nat) : aSt := aAdd (aFixN A (gM A)) (aFmt (gM A) (gN A + 3) (cHalf (gC A f) 2))
def aSb2 (A : aSt) (f : Nat) : aSt := aAdd (aFix (aSb1 A f) f) (aCutR f (gN A + 3))
def aSpB (A : aSt) (par f s : Nat) : aSt := aAdd (aFix (aSb2 A f) par) (aLnk par (gN A + 3) s (gM A) f)
theorem zfr_pbr {S : zS} {n : Nat} : zfr S S (pbr n) := zfr.rf _ _
theorem okr_cut {A : aSt} {p L : Nat} (hp : p < 40) (hL : L < 2000) (h4 : (gC A p).2.1.length = 4) : okr A (aCutR p L) :=
  ⟨⟨by show 4 < 8; decide, fun _ => hp, by show 0 < 2000; decide, by show 0 < gN A + 1; omega, hL, by show 0 < 64; decide, fun z => absurd z (by show ¬ 6 ≤ 4; decide)⟩, fun _ => h4⟩
theorem okr_lnk {A : aSt} {p L s c b : Nat} (hp : p < 40) (hL : L < 2000) (hs : s < 64) (hb : (gC A p).1 = true) (hm : b ∈ (gC A p).2.1) (h4 : (gC A p).2.1.length < 4) (hc : c < 64) : okr A (aLnk p L s c b) :=
  ⟨⟨by show 5 < 8; decide, fun _ => hp, by show 0 < 2000; decide, by show 0 < gN A + 1; omega, hL, hs, fun z => absurd z (by show ¬ 6 ≤ 5; decide)⟩, fun _ => ⟨hb, hm, h4, hc⟩⟩
theorem c31 {S : zS} {d sl key par f s : Nat} {A : aSt} (hl : lkC S d sl A) (hw : wA A) (hn : gN A + 3 ≤ 1144) (h4 : (gC A f).2.1.length = 4) (hpg : gM A + 1 ≤ 40) (hf : f < gM A) (hpar : par < gM A) (hne : f ≠ par) (hs : s < 64) (hsep : cMid (gC A f) = nI s) (hb : (gC A par).1 = true) (hm : f ∈ (gC A par).2.1) (hp4 : (gC A par).2.1.length < 4) :
    zwp 31 (0, zent 31 [.inr (some (0, 0)), .inl (nI par), .inl (nI f), .inl (nI key)], [], (S, d)) (fun o t => ∃ S' d', o = .inl (some (.inl (nI (if nI s ≤ nI key then gM A else f)))) ∧ t = (S', d') ∧ lkC S' d' (gN A + 3) (aSpB A par f s) ∧ zkp S S') := by
  have hM := gM_pos A
  have hS4 : S 4 0 0 = nI (gM A) := hl.pgs
  have hwc := hw.con f
  refine w31_0 ⟨fun _ => ⟨f, rfl, by omega, zwp_mono (c70 (hl.con (by omega)) hwc h4) (fun o t h => ?_)⟩, fun z => ?_⟩
  case _ =>
    obtain ⟨rfl, rfl⟩ := h
    rw [hS4, hsep]
    refine w31_35 (zwp_mono (c40 hl) (fun o t h => ?_))
    obtain ⟨S1, rfl, rfl, k1, z1⟩ := h
    -- the upper half
    have hwa := wA_fixN (p := gM A) hw (by omega)
    refine w31_44 (zwp_mono (c34 (p := gM A) k1 hw (by omega)) (fun o t h => ?_))
    obtain ⟨S2, rfl, rfl, k2, z2⟩ := h
    have hNa : gN (aFixN A (gM A)) = gN A := log_fixN.2
    have r2 := k2.rows
    have s2 := k2.size
    rw [hNa] at r2 s2
    refine w31_50 (zwp_mono (c39 s2 r2.1 (by omega) r2.2.1 r2.2.2 (by omega)) (fun o t h => ?_))
    obtain ⟨S3, d3, rfl, rfl, g1, g2, g3, f1, u65, u192, u193, u194, u195, u196, u197, u198, u199⟩ := h
    have hc3 : lcon S3 f (gC A f) := by
      have := k2.con (p := f) (by omega)
      rw [gC_fixN] at this
      exact lcon_congr (fun g j hg => f1 g f j (fun z => by rcases z with z | z <;> omega)) this
    refine w31_62 (zwp_mono (c43 hc3 hwc h4 (Or.inr rfl)) (fun o t h => ?_))
    obtain ⟨S4, rfl, rfl, f2, hb4⟩ := h
    refine w31_72 (zwp_mono (fmt_pre hNa (L := gN A + 3) (p := gM A) (pr := 0) (half_w hwc h4 (Or.inr rfl)).1 (half_w hwc h4 (Or.inr rfl)).2 (by omega) (by omega) ?_ ?_ f1 f2 u65 u192 u193 u194 u195 u196 u197 u198 u199 hb4 k2 hwa (by omega) g2 g3) (fun o t h => ?_))
    · rw [log_fixN.1, log_fixN.2]
      exact lat_new (Nat.le_refl _)
    · unfold aLast
      rw [if_pos (by omega)]
    obtain ⟨S5, rfl, rfl, k5, z5⟩ := h
    have k5 : lkC S5 d3 (gN A + 3) (aSb1 A f) := k5
    have hw1 : wA (aSb1 A f) := wA_add hwa (okr_fmt (by omega) (by omega) (half_w hwc h4 (Or.inr rfl)).1 (half_w hwc h4 (Or.inr rfl)).2) (by rw [hNa]; omega)
    have hN1 : gN (aSb1 A f) = gN A + 1 := log_add.2.trans (by rw [hNa])
    have hC1 : ∀ p, p ≠ gM A → gC (aSb1 A f) p = gC A p := fun p hp => by
      unfold aSb1
      rw [gC_add_ne (by show gM A ≠ p; omega), gC_fixN]
    -- the lower half stays in its page
    have hwb := wA_fix (p := f) hw1 (by omega)
    refine w31_78 (zwp_mono (c33 (p := f) k5 hw1 (by omega)) (fun o t h => ?_))
    obtain ⟨S6, rfl, rfl, k6, z6⟩ := h
    have hNb : gN (aFix (aSb1 A f) f) = gN A + 1 := log_fix.2.trans hN1
    have r6 := k6.rows
    have s6 := k6.size
    have l6 := k6.lat (p := f) (by omega)
    rw [hNb] at r6 s6
    refine w31_83 ⟨f, rfl, by omega, ?_⟩
    rw [l6]
    refine zwp_mono (c39 s6 r6.1 (by omega) r6.2.1 r6.2.2 (by omega)) (fun o t h => ?_)
    obtain ⟨S7, d7, rfl, rfl, g1, g2, g3, f1, u65, u192, u193, u194, u195, u196, u197, u198, u199⟩ := h
    have hcut : okr (aFix (aSb1 A f) f) (aCutR f (gN A + 3)) := okr_cut (by omega) (by omega) (by rw [gC_fix, hC1 f (by omega)]; exact h4)
    rw [if_pos (by omega)] at u199
    obtain ⟨q1, q2, q3, q4⟩ := rowH (x := aCutR f (gN A + 3)) (K := 4) (by decide) rfl rfl rfl rfl rfl f1 zfr_pbr u65 u192 u193 u194 u195 u196 u197 u198 u199
    have pre7 : zwp 32 (0, zent 32 [.inr (some (0, 0)), .inr (some (3, gN A + 1 + 1))], [], (S7, d7)) (fun o t => ∃ S', o = .inl none ∧ t = (S', d7) ∧ lkC S' d7 (gN A + 3) (aSb2 A f) ∧ zkp S6 S') := by
      have := cAdd (d := d7) (S := S7) k6 hwb (by rw [hNb]; omega) hcut (by rw [hNb]; exact q1) (by rw [hNb]; exact g2) g3 (by rw [hNb]; exact q2) (by rw [hNb]; exact hNb ▸ q3) lrB_cut (by rw [hNb]; exact q4)
      rw [hNb] at this
      exact this
    refine w31_103 (zwp_mono pre7 (fun o t h => ?_))
    obtain ⟨S8, rfl, rfl, k8, z8⟩ := h
    have hw2 : wA (aSb2 A f) := wA_add hwb hcut (by rw [hNb]; omega)
    have hN2 : gN (aSb2 A f) = gN A + 2 := log_add.2.trans (by rw [hNb])
    have hC2 : ∀ p, p ≠ gM A → p ≠ f → gC (aSb2 A f) p = gC A p := fun p hp hpf => by
      unfold aSb2
      rw [gC_add_ne (by show f ≠ p; omega), gC_fix, hC1 p hp]
    -- the parent
    have hwp := wA_fix (p := par) hw2 (by omega)
    refine w31_106 (zwp_mono (c33 (p := par) k8 hw2 (by omega)) (fun o t h => ?_))
    obtain ⟨S9, rfl, rfl, k9, z9⟩ := h
    have hNp : gN (aFix (aSb2 A f) par) = gN A + 2 := log_fix.2.trans hN2
    have r9 := k9.rows
    have s9 := k9.size
    have l9 := k9.lat (p := par) (by omega)
    rw [hNp] at r9 s9
    refine w31_111 ⟨par, rfl, by omega, ?_⟩
    rw [l9]
    refine zwp_mono (c39 s9 r9.1 (by omega) r9.2.1 r9.2.2 (by omega)) (fun o t h => ?_)
    obtain ⟨S10, d10, rfl, rfl, g1, g2, g3, f1, u65, u192, u193, u194, u195, u196, u197, u198, u199⟩ := h
    refine w31_130 (zwp_mono (c45 (x := s) (a := gM A) (b := f)) (fun o t h => ?_))
    obtain ⟨S11, rfl, rfl, f2, v200, v201, v205⟩ := h
    have hlnk : okr (aFix (aSb2 A f) par) (aLnk par (gN A + 3) s (gM A) f) := okr_lnk (by omega) (by omega) hs (by rw [gC_fix, hC2 par (by omega) (Ne.symm hne)]; exact hb) (by rw [gC_fix, hC2 par (by omega) (Ne.symm hne)]; exact hm) (by rw [gC_fix, hC2 par (by omega) (Ne.symm hne)]; exact hp4) (by omega)
    rw [if_neg (by omega)] at u199
    obtain ⟨q1, q2, q3, q4⟩ := rowH (x := aLnk par (gN A + 3) s (gM A) f) (K := 5) (by decide) rfl rfl rfl rfl rfl f1 f2 u65 u192 u193 u194 u195 u196 u197 u198 u199
    have pre11 : zwp 32 (0, zent 32 [.inr (some (0, 0)), .inr (some (3, gN A + 2 + 1))], [], (S11, d10)) (fun o t => ∃ S', o = .inl none ∧ t = (S', d10) ∧ lkC S' d10 (gN A + 3) (aSpB A par f s) ∧ zkp S9 S') := by
      have := cAdd (d := d10) (S := S11) k9 hwp (by rw [hNp]; omega) hlnk (by rw [hNp]; exact q1) (by rw [hNp]; exact g2) g3 (by rw [hNp]; exact q2) (by rw [hNp]; exact hNp ▸ q3) (by rw [hNp]; exact ⟨v200, v201, v205⟩) (by rw [hNp]; exact q4)
      rw [hNp] at this
      exact this
    refine w31_142 (zwp_mono pre11 (fun o t h => ?_))
    obtain ⟨S12, rfl, rfl, k12, z12⟩ := h
    have hz : zkp S S12 := ((((z1.tr z2).tr z5).tr z6).tr z8).tr (z9.tr z12)
    exact w31_148 ⟨fun hle => ⟨S12, d10, by rw [if_pos hle], rfl, k12, hz⟩, fun hnle => ⟨S12, d10, by rw [if_neg hnle], rfl, k12, hz⟩⟩
  · rw [hS4, nI_add, nI_le_iff (by omega) (by omega)] at z
    omega
