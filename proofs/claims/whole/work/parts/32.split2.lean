/-! Splits, in the class: splitRoot, splitBelow. -/
theorem gC_add_ne {A : aSt} {x : aRec} {p : Nat} (h : rP x ≠ p) : gC (aAdd A x) p = gC A p := by
  unfold gC
  rw [log_add.1, log_add.2, con, upL_self, if_neg (by intro z; have := of_decide_eq_true z; exact h this.2), con_congr (lg := gL A) (fun i q1 q2 => up_pre q2)]
theorem gC_add {A : aSt} {x : aRec} (h : rK x < 6) : gC (aAdd A x) (rP x) = app x (gC A (rP x)) := by
  unfold gC
  rw [log_add.1, log_add.2, con, upL_self, if_pos (show isPg (rP x) x = true from decide_eq_true ⟨h, rfl⟩), con_congr (lg := gL A) (fun i q1 q2 => up_pre q2)]
def gM (A : aSt) : Nat := pgs (gL A) (gN A)
theorem gM_fix {A : aSt} {p : Nat} : gM (aFix A p) = gM A := by unfold gM; rw [log_fix.1, log_fix.2]
theorem gM_fixN {A : aSt} {p : Nat} : gM (aFixN A p) = gM A := by unfold gM; rw [log_fixN.1, log_fixN.2]
theorem gM_add {A : aSt} {x : aRec} (h : rK x < 6) : gM (aAdd A x) = max (gM A) (rP x + 1) := by
  unfold gM
  rw [log_add.1, log_add.2, pgs, upL_self, if_pos h, pgs_congr (lg := gL A) (fun i q1 q2 => up_pre q2)]
theorem gM_pos (A : aSt) : 1 ≤ gM A := by
  unfold gM
  generalize gN A = n
  induction n with
  | zero => exact Nat.le_refl _
  | succ n ih =>
    unfold pgs
    split
    · exact Nat.le_trans ih (Nat.le_max_left _ _)
    · exact ih
def aSp1 (A : aSt) : aSt := aAdd (aFixN A (gM A)) (aFmt (gM A) (gN A + 3) (cHalf (gC A 0) 0))
def aSp2 (A : aSt) : aSt := aAdd (aFixN (aSp1 A) (gM A + 1)) (aFmt (gM A + 1) (gN A + 3) (cHalf (gC A 0) 2))
def aSpR (A : aSt) : aSt := aAdd (aFix (aSp2 A) 0) (aFmt 0 (gN A + 3) (true, [gM A, gM A + 1], [cMid (gC A 0)]))
-- a new page's FORMAT: fixNew, add, bringHalf, enforce have this behind them
theorem fmt_pre {S : zS} {d L p : Nat} {A : aSt} {c : aCon} {S1 S2 : zS} {d1 pr n : Nat} (hN : gN A = n) (hc : wcon c) (h2 : c.2.1.length = 2) (hp : p < 40) (hL : L < 2000) (hpr : lat (gL A) p (gN A) = pr) (hlast : aLast L n = L)
    (f1 : zfr S S1 (prow (n + 1))) (f2 : zfr S1 S2 (pbr (n + 1))) (u65 : S1 65 0 0 = nI (n + 1)) (u192 : S1 192 (n + 1) 0 = nI (n + 1)) (u193 : S1 193 (n + 1) 0 = nI 3) (u194 : S1 194 (n + 1) 0 = nI p) (u195 : S1 195 (n + 1) 0 = nI pr) (u196 : S1 196 (n + 1) 0 = nI 0) (u197 : S1 197 (n + 1) 0 = nI 0) (u198 : S1 198 (n + 1) 0 = nI 0) (u199 : S1 199 (n + 1) 0 = nI (if n + 1 < L then L else n + 1)) (hb : lbr S2 (n + 1) c)
    (hl : lkC S d L A) (hw : wA A) (hn : n < 1144) (hd1 : n + 1 ≤ d1) (hd2 : d1 < 1145) :
    zwp 32 (0, zent 32 [.inr (some (0, 0)), .inr (some (3, n + 1))], [], (S2, d1)) (fun o t => ∃ S', o = .inl none ∧ t = (S', d1) ∧ lkC S' d1 L (aAdd A (aFmt p L c)) ∧ zkp S S') := by
  subst hN
  have e199 : S1 199 (gN A + 1) 0 = nI L := by
    rw [u199]
    have : (if gN A + 1 < L then L else gN A + 1) = L := hlast
    rw [this]
  obtain ⟨r1, r2, r3, r4⟩ := rowH (x := aFmt p L c) (K := 3) (by decide) rfl rfl rfl rfl rfl f1 f2 u65 u192 u193 u194 u195 u196 u197 u198 e199
  refine cAdd hl hw hn (okr_fmt hp hL hc h2) r1 hd1 hd2 r2 ?_ hb r4
  show lrH S2 (gN A + 1) (lat (gL A) p (gN A)) _
  rw [hpr]
  exact r3
-- PageKeeper.splitRoot
theorem c30 {S : zS} {d sl key : Nat} {A : aSt} (hl : lkC S d sl A) (hw : wA A) (hn : gN A + 3 ≤ 1144) (h4 : (gC A 0).2.1.length = 4) (hpg : gM A + 2 ≤ 40) :
    zwp 30 (0, zent 30 [.inr (some (0, 0)), .inl (nI key)], [], (S, d)) (fun o t => ∃ S' d', o = .inl (some (.inl (nI (if cMid (gC A 0) ≤ nI key then gM A + 1 else gM A)))) ∧ t = (S', d') ∧ lkC S' d' (gN A + 3) (aSpR A) ∧ zkp S S') := by
  have hM := gM_pos A
  have mm0 : gM A < 64 := by omega
  have mm1 : gM A + 1 < 64 := by omega
  have hp4 : S 4 0 0 = nI (gM A) := hl.pgs
  have hwc := hw.con 0
  refine w30_0 ⟨fun _ => ⟨0, rfl, by decide, zwp_mono (c70 (hl.con (by decide)) hwc h4) (fun o t h => ?_)⟩, fun z => ?_⟩
  case _ =>
    obtain ⟨rfl, rfl⟩ := h
    rw [hp4, nI_add]
    refine w30_40 (zwp_mono (c40 hl) (fun o t h => ?_))
    obtain ⟨S1, rfl, rfl, k1, z1⟩ := h
    -- the lower half
    have hwa := wA_fixN (p := gM A) hw (by omega)
    refine w30_49 (zwp_mono (c34 (p := gM A) k1 hw (by omega)) (fun o t h => ?_))
    obtain ⟨S2, rfl, rfl, k2, z2⟩ := h
    have hNa : gN (aFixN A (gM A)) = gN A := log_fixN.2
    have r2 := k2.rows
    have s2 := k2.size
    rw [hNa] at r2 s2
    refine w30_54 (zwp_mono (c39 s2 r2.1 (by omega) r2.2.1 r2.2.2 (by omega)) (fun o t h => ?_))
    obtain ⟨S3, d3, rfl, rfl, g1, g2, g3, f1, u65, u192, u193, u194, u195, u196, u197, u198, u199⟩ := h
    have hc3 : lcon S3 0 (gC A 0) := by
      have := k2.con (p := 0) (by decide)
      rw [gC_fixN] at this
      exact lcon_congr (fun f j hf => f1 f 0 j (fun z => by rcases z with z | z <;> omega)) this
    refine w30_65 (zwp_mono (c43 hc3 hwc h4 (Or.inl rfl)) (fun o t h => ?_))
    obtain ⟨S4, rfl, rfl, f2, hb4⟩ := h
    refine w30_74 (zwp_mono (fmt_pre hNa (L := gN A + 3) (p := gM A) (pr := 0) (half_w hwc h4 (Or.inl rfl)).1 (half_w hwc h4 (Or.inl rfl)).2 (by omega) (by omega) ?_ ?_ f1 f2 u65 u192 u193 u194 u195 u196 u197 u198 u199 hb4 k2 hwa (by omega) g2 g3) (fun o t h => ?_))
    · rw [log_fixN.1, log_fixN.2]
      exact lat_new (Nat.le_refl _)
    · unfold aLast
      rw [if_pos (by omega)]
    obtain ⟨S5, rfl, rfl, k5, z5⟩ := h
    have k5 : lkC S5 d3 (gN A + 3) (aSp1 A) := k5
    have hw1 : wA (aSp1 A) := wA_add hwa (okr_fmt (by omega) (by omega) (half_w hwc h4 (Or.inl rfl)).1 (half_w hwc h4 (Or.inl rfl)).2) (by rw [hNa]; omega)
    have hN1 : gN (aSp1 A) = gN A + 1 := by
      show gN (aFixN A (gM A)) + 1 = _
      rw [hNa]
    have hM1 : gM (aSp1 A) = gM A + 1 := by
      unfold aSp1
      rw [gM_add (by show 3 < 6; decide), gM_fixN]
      show max (gM A) (gM A + 1) = _
      omega
    have hC1 : gC (aSp1 A) 0 = gC A 0 := by
      unfold aSp1
      rw [gC_add_ne (by show gM A ≠ 0; omega), gC_fixN]
    -- the upper half
    have hwb := wA_fixN (p := gM A + 1) hw1 (by omega)
    refine w30_80 (zwp_mono (c34 (p := gM A + 1) k5 hw1 (by omega)) (fun o t h => ?_))
    obtain ⟨S6, rfl, rfl, k6, z6⟩ := h
    have hNb : gN (aFixN (aSp1 A) (gM A + 1)) = gN A + 1 := log_fixN.2.trans hN1
    have r6 := k6.rows
    have s6 := k6.size
    rw [hNb] at r6 s6
    refine w30_86 (zwp_mono (c39 s6 r6.1 (by omega) r6.2.1 r6.2.2 (by omega)) (fun o t h => ?_))
    obtain ⟨S7, d7, rfl, rfl, g1, g2, g3, f1, u65, u192, u193, u194, u195, u196, u197, u198, u199⟩ := h
    have hc7 : lcon S7 0 (gC A 0) := by
      have := k6.con (p := 0) (by decide)
      rw [gC_fixN, hC1] at this
      exact lcon_congr (fun f j hf => f1 f 0 j (fun z => by rcases z with z | z <;> omega)) this
    refine w30_98 (zwp_mono (c43 hc7 hwc h4 (Or.inr rfl)) (fun o t h => ?_))
    obtain ⟨S8, rfl, rfl, f2, hb8⟩ := h
    refine w30_107 (zwp_mono (fmt_pre hNb (L := gN A + 3) (p := gM A + 1) (pr := 0) (half_w hwc h4 (Or.inr rfl)).1 (half_w hwc h4 (Or.inr rfl)).2 (by omega) (by omega) ?_ ?_ f1 f2 u65 u192 u193 u194 u195 u196 u197 u198 u199 hb8 k6 hwb (by omega) g2 g3) (fun o t h => ?_))
    · rw [log_fixN.1, log_fixN.2]
      exact lat_new (Nat.le_of_eq hM1)
    · unfold aLast
      rw [if_pos (by omega)]
    obtain ⟨S9, rfl, rfl, k9, z9⟩ := h
    have k9 : lkC S9 d7 (gN A + 3) (aSp2 A) := k9
    have hw2 : wA (aSp2 A) := wA_add hwb (okr_fmt (by omega) (by omega) (half_w hwc h4 (Or.inr rfl)).1 (half_w hwc h4 (Or.inr rfl)).2) (by rw [hNb]; omega)
    have hN2 : gN (aSp2 A) = gN A + 2 := by
      show gN (aFixN (aSp1 A) (gM A + 1)) + 1 = _
      rw [hNb]
    -- the root
    have hwr := wA_fix (p := 0) hw2 (by decide)
    refine w30_113 (zwp_mono (c33 (p := 0) k9 hw2 (by decide)) (fun o t h => ?_))
    obtain ⟨S10, rfl, rfl, k10, z10⟩ := h
    have hNr : gN (aFix (aSp2 A) 0) = gN A + 2 := log_fix.2.trans hN2
    have r10 := k10.rows
    have s10 := k10.size
    have l10 := k10.lat (p := 0) (by decide)
    rw [hNr] at r10 s10
    refine w30_118 ⟨0, rfl, by decide, ?_⟩
    rw [l10]
    refine zwp_mono (c39 s10 r10.1 (by omega) r10.2.1 r10.2.2 (by omega)) (fun o t h => ?_)
    obtain ⟨S11, d11, rfl, rfl, g1, g2, g3, f1, u65, u192, u193, u194, u195, u196, u197, u198, u199⟩ := h
    refine w30_137 (zwp_mono c44 (fun o t h => ?_))
    obtain ⟨S12, rfl, rfl, f2, hb12⟩ := h
    refine w30_149 (zwp_mono (fmt_pre hNr (L := gN A + 3) (p := 0) (pr := lat (gL (aFix (aSp2 A) 0)) 0 (gN (aFix (aSp2 A) 0))) (c := (true, [gM A, gM A + 1], [cMid (gC A 0)])) (wcon_two mm0 mm1) len_two (by decide) (by omega) rfl ?_ f1 f2 u65 u192 u193 u194 u195 u196 u197 u198 u199 hb12 k10 hwr (by omega) g2 g3) (fun o t h => ?_))
    · unfold aLast
      rw [if_neg (by omega)]
    obtain ⟨S13, rfl, rfl, k13, z13⟩ := h
    have hz : zkp S S13 := ((((z1.tr z2).tr z5).tr z6).tr z9).tr (z10.tr z13)
    refine w30_155 ⟨fun hle => ⟨S13, d11, by rw [if_pos hle], rfl, k13, hz⟩, fun hnle => ⟨S13, d11, by rw [if_neg hnle], rfl, k13, hz⟩⟩
  · rw [hp4, nI_add, nI_le_iff (by omega) (by omega)] at z
    omega
