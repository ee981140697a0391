/-! The reference: split below, the way down, a change. -/
abbrev pml : Nat → Nat → Prop := fun f i => pmm f i ∨ plk f i
theorem pml_m {S S1 S2 : zS} (h1 : zfr S S1 pml) (h2 : zfr S1 S2 pmm) : zfr S S2 pml := fun f i j h => (h2 f i j (fun z => h (Or.inl z))).trans (h1 f i j h)
theorem pml_l {S S1 S2 : zS} (h1 : zfr S S1 pml) (h2 : zfr S1 S2 plk) : zfr S S2 pml := fun f i j h => (h2 f i j (fun z => h (Or.inr z))).trans (h1 f i j h)
theorem pml_rf {S : zS} : zfr S S pml := fun _ _ _ _ => rfl
theorem pml_tr {S S1 S2 : zS} (h1 : zfr S S1 pml) (h2 : zfr S1 S2 pml) : zfr S S2 pml := fun f i j h => (h2 f i j h).trans (h1 f i j h)
theorem lkM_pl {S S' : zS} {ck : Nat} {A : aSt} (h : zfr S S' plk) (hl : lkM S ck A) : lkM S' ck A := lkM_fr (fun f i j hf => h f i j (fun z => by
  have z : f = 1048 ∨ f = 1049 ∨ f = 1984 ∨ f = 2048 := z
  have hf : f = 1025 ∨ f = 1026 ∨ f = 1036 ∨ f = 1038 ∨ (1043 ≤ f ∧ f ≤ 1047) ∨ (1088 ≤ f ∧ f ≤ 1920) := hf
  omega)) hl
theorem radd {S S' : zS} {ck : Nat} {A : aSt} {x : aRec} (hl : lkM S ck A) (hpl : pleg (gL A) (gN A)) (hf : ∀ f i j, ¬ (f = 1025 ∨ (1088 ≤ f ∧ f ≤ 1600 ∧ j = gN A + 1)) → S' f i j = S f i j) (h25 : S' 1025 0 0 = nI (gN A + 1)) (hH : mH S' (gN A + 1) x) (hB : mB S' (upL (gL A) (gN A + 1) x) (gN A + 1)) (h3 : rK x ≠ 3) (hp : rK x < 6 → rP x < gM A) : lkM S' ck (aAdd A x) ∧ zfr S S' pmm := by
  have hN := hl.n
  refine ⟨lkM_add hN hpl (fun f i j h => hf f i j (by omega)) h25 hH hB ?_ ?_, fun f i j h => hf f i j (fun z => h (by show _ ∨ _; omega))⟩
  · rw [fmts, upL_self, if_neg h3, fmts_congr (lg := gL A) (fun i z1 z2 => up_pre z2), hf _ _ _ (by omega)]
    exact hN.fm
  · have e : pgs (upL (gL A) (gN A + 1) x) (gN A) = gM A := pgs_congr (fun i z1 z2 => up_pre z2)
    rw [hf _ _ _ (by omega), hl.m, pgs, upL_self, e]
    by_cases h6 : rK x < 6
    · rw [if_pos h6, Nat.max_eq_left (hp h6)]
    · rw [if_neg h6]
section R91
variable {Q : zO → zT → Prop} {S : zS} {d ck key : Nat} {A : aSt}
theorem r91B {par p : Nat} (hl : lkM S ck A) (h : rG A) (hlk : mlook S (gC A p)) (h4 : (gC A p).2.1.length = 4) (hck : ck + 3 < 2 ^ 31) (ho : okSp A par p) (p0 : p ≠ 0)
    (kk : ∀ S', zfr S S' pmm → lkM S' (ck + 3) (aSpB A par p (cSep (gC A p))) → Q (.inl (some (.inl (nI (if cMid (gC A p) ≤ nI key then gM A else p))))) (S', d)) :
    zwp 91 (0, zent 91 [.inr (some (16, 0)), .inl (nI p), .inl (nI par), .inl (nI key)], [], (S, d)) Q := by
  obtain ⟨o1, -, o3⟩ := ho
  obtain ⟨p1, p2, p3, p4, p5, p6, p7, p8, p9⟩ := o3 p0
  have hwc := h.1.1.con p
  have hF := h.fm
  have h25 : S 1025 0 0 = nI (gN A) := hl.log.1
  obtain ⟨s1, n1, m1, f1, c1⟩ := stN (c := cHalf (gC A p) 2) (h.s (gN A + 3)) (by omega) (by omega) (by omega) (by omega) (half_w hwc h4 (Or.inr rfl)).1 (half_w hwc h4 (Or.inr rfl)).2
  have e3 : aSpB A par p (cSep (gC A p)) = aAdd (aFix (aSb2 A p) par) (aLnk par (gN A + 3) (cSep (gC A p)) (gM A) p) := rfl
  have e2 : aSb2 A p = aAdd (aFix (aSb1 A p) p) (aCutR p (gN A + 3)) := rfl
  have e1 : aSb1 A p = aAdd (aFixN A (gM A)) (aFmt (gM A) (gN A + 3) (cHalf (gC A p) 2)) := rfl
  rw [e3, e2] at kk
  rw [← e1] at s1 n1 m1 f1 c1
  refine mid_w hlk hwc h4 ?_
  rw [p6] at kk ⊢
  generalize cSep (gC A p) = s at p5 p6 kk ⊢
  refine w91_22 ⟨fun z => absurd (by rw [← nI_0, nI_eq_iff (by omega) (by decide)] at z; exact z) p0, fun _ => ?_⟩
  rw [h25, nI_add]
  refine zwp_mono (r87F (S0 := S) (c := gC A p) (a := 2) (L := gN A + 3) (Q := zaf 91 110 [some (.inr (some (16, 0))), some (.inl (nI p)), some (.inl (nI par)), some (.inl (nI key)), some (.inl (nI s)), some (.inl (nI (gN A + 3))), some (.inl (nI (gM A))), none, none] [] Q) hl h.1 (h.2.1.s _) h.2.2.1 hlk h4 hwc (Or.inr rfl) (by omega) (by omega) (by omega) (by omega) (by omega) (by omega) (fun _ _ _ _ => rfl) (fun S1 z1 g1 k1 w1 i1 r1 => ?_)) (fun o t h => ?_)
  case refine_2 =>
    obtain ⟨rfl, h⟩ := h
    exact w91_98 h
  rw [← e1] at g1 w1 i1 r1
  generalize aSb1 A p = A1 at *
  have hcp : gC A1 p = gC A p := by rw [c1 p, if_neg (by omega)]
  have hx2 : okr (aFix A1 p) (aCutR p (gN A + 3)) := okr_cut (by omega) (by omega) (by rw [gC_fix, hcp]; exact h4)
  obtain ⟨s2, n2, m2, -, c2⟩ := stA s1 (q := p) (by omega) (by omega) (by omega) hx2 (by show 4 < 6; decide) (by show ¬ 4 = 2; decide) rfl rfl
  refine w91_110 (zwp_mono (r86 (p := p) g1 w1.1 w1.2.1 (by omega) (by omega)) (fun o t h => ?_))
  obtain ⟨S2, rfl, rfl, z2, g2⟩ := h
  have hwB := (wM_fix (p := p) w1 (by omega)).2.2.2.1
  have hNB : gN (aFix A1 p) = gN A + 1 := log_fix.2.trans n1
  have hMB : gM (aFix A1 p) = gM A + 1 := gM_fix.trans m1
  generalize aFix A1 p = B at *
  refine w91_115 (zwp_mono (r88 (K := 4) (p := p) g2.n.size (by omega) (by decide) (by omega)) (fun o t h => ?_))
  obtain ⟨S3, rfl, rfl, f3, u25, u88, u52, u16, u36, u00⟩ := h
  refine w91_121 ⟨gN B + 1, rfl, by omega, ?_⟩
  rw [nars (by omega)]
  have hk3 : ∀ f i j, f ≠ 1600 → zu S3 1600 0 (gN B + 1) (nI (gN A + 3)) f i j = S3 f i j := fun f i j z => zu_f _ _ z
  obtain ⟨g3, z3⟩ := radd (S' := zu S3 1600 0 (gN B + 1) (nI (gN A + 3))) (x := aCutR p (gN A + 3)) g2 hwB (fun f i j hf => by
    have e : ¬ (f = 1600 ∧ i = 0 ∧ j = gN B + 1) := by omega
    unfold zu
    rw [if_neg e]
    exact f3 f i j (by omega)) ((hk3 _ _ _ (by decide)).trans u25) ⟨(hk3 _ _ _ (by decide)).trans u88, fun _ => (hk3 _ _ _ (by decide)).trans u52, (hk3 _ _ _ (by decide)).trans u16, (hk3 _ _ _ (by decide)).trans u36, gN A + 3, zu_self _ _ _ _ _, by omega, by
      show (if gN B + 1 < gN A + 3 then gN A + 3 else gN B + 1) = gN A + 3
      split <;> omega⟩ (by
      unfold mB
      rw [upL_self]
      trivial) (by show ¬ 4 = 3; decide) (fun _ => by show p < gM B; omega)
  generalize zu S3 1600 0 (gN B + 1) (nI (gN A + 3)) = S4 at g3 z3 ⊢
  clear hk3
  generalize aAdd B (aCutR p (gN A + 3)) = A2 at *
  refine zwp_mono (r86 (p := par) g3 s2.1.1 s2.1.2.1 (by omega) (by omega)) (fun o t h => ?_)
  obtain ⟨S5, rfl, rfl, z5, g5⟩ := h
  have hwC := (wM_fix (p := par) s2.1 (by omega)).2.2.2.1
  have hNC : gN (aFix A2 par) = gN A + 2 := log_fix.2.trans (by omega)
  have hMC : gM (aFix A2 par) = gM A + 1 := gM_fix.trans (by omega)
  generalize aFix A2 par = C at *
  refine w91_138 (zwp_mono (r88 (K := 5) (p := par) g5.n.size (by omega) (by decide) (by omega)) (fun o t h => ?_))
  obtain ⟨S6, rfl, rfl, f6, u25, u88, u52, u16, u36, u00⟩ := h
  have hk6 : ∀ f i j, f ≠ 1600 → f ≠ 1280 → f ≠ 1344 → f ≠ 1472 → zu (zu (zu (zu S6 1600 0 (gN C + 1) (nI (gN A + 3))) 1280 0 (gN C + 1) (nI s)) 1344 0 (gN C + 1) (nI (gM A))) 1472 0 (gN C + 1) (nI p) f i j = S6 f i j := fun f i j q1 q2 q3 q4 => by rw [zu_f _ _ q4, zu_f _ _ q3, zu_f _ _ q2, zu_f _ _ q1]
  have fin : zfr S (zu (zu (zu (zu S6 1600 0 (gN C + 1) (nI (gN A + 3))) 1280 0 (gN C + 1) (nI s)) 1344 0 (gN C + 1) (nI (gM A))) 1472 0 (gN C + 1) (nI p)) pmm ∧ lkM (zu (zu (zu (zu S6 1600 0 (gN C + 1) (nI (gN A + 3))) 1280 0 (gN C + 1) (nI s)) 1344 0 (gN C + 1) (nI (gM A))) 1472 0 (gN C + 1) (nI p)) (ck + 3) (aAdd C (aLnk par (gN A + 3) s (gM A) p)) := by
    obtain ⟨g6, z6⟩ := radd (S' := zu (zu (zu (zu S6 1600 0 (gN C + 1) (nI (gN A + 3))) 1280 0 (gN C + 1) (nI s)) 1344 0 (gN C + 1) (nI (gM A))) 1472 0 (gN C + 1) (nI p)) (x := aLnk par (gN A + 3) s (gM A) p) g5 hwC (fun f i j hf => by
      have e1 : ¬ (f = 1600 ∧ i = 0 ∧ j = gN C + 1) := by omega
      have e2 : ¬ (f = 1280 ∧ i = 0 ∧ j = gN C + 1) := by omega
      have e3 : ¬ (f = 1344 ∧ i = 0 ∧ j = gN C + 1) := by omega
      have e4 : ¬ (f = 1472 ∧ i = 0 ∧ j = gN C + 1) := by omega
      unfold zu
      rw [if_neg e4, if_neg e3, if_neg e2, if_neg e1]
      exact f6 f i j (by omega)) ((hk6 _ _ _ (by decide) (by decide) (by decide) (by decide)).trans u25) ⟨(hk6 _ _ _ (by decide) (by decide) (by decide) (by decide)).trans u88, fun _ => (hk6 _ _ _ (by decide) (by decide) (by decide) (by decide)).trans u52, (hk6 _ _ _ (by decide) (by decide) (by decide) (by decide)).trans u16, (hk6 _ _ _ (by decide) (by decide) (by decide) (by decide)).trans u36, gN A + 3, by
        rw [zu_f _ _ (by decide), zu_f _ _ (by decide), zu_f _ _ (by decide), zu_self], by omega, by
        show (if gN C + 1 < gN A + 3 then gN A + 3 else gN C + 1) = gN A + 3
        split <;> omega⟩ (by
        unfold mB
        rw [upL_self]
        refine ⟨?_, ?_, ?_⟩
        · rw [zu_f _ _ (by decide), zu_f _ _ (by decide), zu_self]
          rfl
        · rw [zu_f _ _ (by decide), zu_self]
          rfl
        · rw [zu_self]
          rfl) (by show ¬ 5 = 3; decide) (fun _ => by show par < gM C; omega)
    exact ⟨pmm_tr z1 (pmm_tr z2 (pmm_tr z3 (pmm_tr z5 z6))), g6⟩
  refine w91_144 ⟨gN C + 1, rfl, by omega, gN C + 1, rfl, by omega, gN C + 1, rfl, by omega, gN C + 1, rfl, by omega, ?_⟩
  rw [nars (by omega), narb (by omega)]
  refine ⟨fun z => ?_, fun z => ?_⟩
  · rw [if_pos z] at kk
    exact kk _ fin.1 fin.2
  · rw [if_neg z] at kk
    exact kk _ fin.1 fin.2
theorem r91 {par p : Nat} (hl : lkM S ck A) (h : rG A) (hlk : mlook S (gC A p)) (h4 : (gC A p).2.1.length = 4) (hck : ck + 3 < 2 ^ 31) (ho : okSp A par p)
    (kk : ∀ S', zfr S S' pmm → lkM S' (ck + 3) (aSplit key A par p).1 → Q (.inl (some (.inl (nI (aSplit key A par p).2)))) (S', d)) :
    zwp 91 (0, zent 91 [.inr (some (16, 0)), .inl (nI p), .inl (nI par), .inl (nI key)], [], (S, d)) Q := by
  have hF := h.fm
  unfold aSplit at kk
  by_cases e : p = 0
  · subst e
    rw [if_pos rfl] at kk
    refine zwp_mono (r91R (key := key) hl h.1 h.2.1 h.2.2.1 hlk h4 hck (ho.2.1 rfl) ho.1 (by omega)) (fun o t h => ?_)
    obtain ⟨S', rfl, rfl, z1, g1⟩ := h
    exact kk S' z1 g1
  · rw [if_neg e] at kk
    exact r91B hl h hlk h4 hck ho e kk
end R91
-- the way down
theorem down_k {key : Nat} : ∀ (f : Nat) (A : aSt) (p : Nat), rG A → p < gM A → fixd A p → rG (aDownL key f A p).1 ∧ (aDownL key f A p).2 < gM A ∧ fixd (aDownL key f A p).1 (aDownL key f A p).2 ∧ gL (aDownL key f A p).1 = gL A ∧ gN (aDownL key f A p).1 = gN A
  | 0, A, p, h1, h2, h3 => ⟨h1, h2, h3, rfl, rfl⟩
  | f + 1, A, p, h1, h2, h3 => by
    unfold aDownL
    by_cases hb : (gC A p).1 = true
    · rw [if_pos hb]
      have hc := h1.2.2.2.1 p hb _ (cChild_mem (k := key) (h1.1.1.con p) hb)
      obtain ⟨r1, r2, r3, r4, r5⟩ := down_k (key := key) f (aFix A (cChild key (gC A p))) (cChild key (gC A p)) (rG_fix h1 hc) (by rw [gM_fix]; exact hc) (fixd_fix h1.1.1)
      rw [gM_fix] at r2
      exact ⟨r1, r2, r3, r4.trans log_fix.1, r5.trans log_fix.2⟩
    · rw [if_neg hb]
      exact ⟨h1, h2, h3, rfl, rfl⟩
theorem aDown_k {key : Nat} {A : aSt} (h : rG A) : rG (aDown A key).1 ∧ (aDown A key).2 < gM A ∧ fixd (aDown A key).1 (aDown A key).2 ∧ gL (aDown A key).1 = gL A ∧ gN (aDown A key).1 = gN A := by
  have h0 := gM_pos A
  obtain ⟨r1, r2, r3, r4, r5⟩ := down_k (key := key) 39 (aFix A 0) 0 (rG_fix h (by omega)) (by rw [gM_fix]; omega) (fixd_fix h.1.1)
  rw [gM_fix] at r2
  exact ⟨r1, r2, r3, r4.trans log_fix.1, r5.trans log_fix.2⟩
section R93
variable {Q : zO → zT → Prop} {S0 : zS} {d key : Nat}
theorem rlook {Q : zO → zT → Prop} {S : zS} {ck p : Nat} {A : aSt} (hl : lkM S ck A) (h : rG A) (hp : p < gM A) (kk : ∀ S', zfr S S' plk → lkM S' ck A → mlook S' (gC A p) → Q (.inl none) (S', d)) : zwp 79 (0, zent 79 [.inr (some (16, 0)), .inl (nI p)], [], (S, d)) Q := by
  have h40 := gM_le h.1.1
  refine zwp_mono (r79 hl.log h.1.1.log h.1.2.2.2.1 h.1.2.2.2.2 (Nat.le_trans h.fm (by decide)) (by omega)) (fun o t z => ?_)
  obtain ⟨S', rfl, rfl, f1, g1⟩ := z
  exact kk S' f1 (lkM_pl f1 hl) g1
theorem r93L : ∀ (f : Nat) (A : aSt) (p ck : Nat) (S : zS), lkM S ck A → rG A → p < gM A → mlook S (gC A p) → zfr S0 S pml → ck + f < 2 ^ 31 → (gC (aDownL key f A p).1 (aDownL key f A p).2).1 = false → (∀ (S' : zS) (ck' : Nat), lkM S' ck' (aDownL key f A p).1 → mlook S' (gC (aDownL key f A p).1 (aDownL key f A p).2) → ck' ≤ ck + f → zfr S0 S' pml → Q (.inl (some (.inl (nI (aDownL key f A p).2)))) (S', d)) → zwp 93 (12, [some (.inr (some (16, 0))), some (.inl (nI key)), some (.inl (nI p))], [], (S, d)) Q
  | 0, A, p, ck, S, hl, h, hp, hlk, hz, hck, hlf, hQ => by
    have hlf : (gC A p).1 = false := hlf
    refine w93_12 ⟨fun _ => hQ S ck hl hlk (Nat.le_refl _) hz, fun z => absurd ?_ z⟩
    rw [hlk.1, hlf]
    rfl
  | f + 1, A, p, ck, S, hl, h, hp, hlk, hz, hck, hlf, hQ => by
    by_cases hb : (gC A p).1 = true
    · have hD : aDownL key (f + 1) A p = aDownL key f (aFix A (cChild key (gC A p))) (cChild key (gC A p)) := by
        rw [aDownL, if_pos hb]
      rw [hD] at hlf hQ
      have hc := h.2.2.2.1 p hb _ (cChild_mem (k := key) (h.1.1.con p) hb)
      have h40 := gM_le h.1.1
      refine w93_12 ⟨fun z => ?_, fun _ => zwp_mono (r92 (k := key) hlk (h.1.1.con p) hb) (fun o t z => ?_)⟩
      · rw [hlk.1, hb] at z
        exact absurd z i01
      obtain ⟨rfl, rfl⟩ := z
      generalize cChild key (gC A p) = x at *
      refine w93_24 (zwp_mono (r86 hl h.1.1 h.1.2.1 (by omega) (by omega)) (fun o t z => ?_))
      obtain ⟨S1, rfl, rfl, z1, g1⟩ := z
      have hxm : x < gM (aFix A x) := by rw [gM_fix]; exact hc
      refine w93_30 (rlook g1 (rG_fix h hc) hxm (fun S2 z2 g2 k2 => ?_))
      exact w93_35 (r93L f (aFix A x) x (ck + 1) S2 g2 (rG_fix h hc) hxm k2 (pml_l (pml_m hz z1) z2) (by omega) hlf (fun S' ck' q1 q2 q3 q4 => hQ S' ck' q1 q2 (by omega) q4))
    · have hD : aDownL key (f + 1) A p = (A, p) := by rw [aDownL, if_neg hb]
      rw [hD] at hQ
      have hb : (gC A p).1 = false := by
        cases hx : (gC A p).1 with
        | true => exact absurd hx hb
        | false => rfl
      refine w93_12 ⟨fun _ => hQ S ck hl hlk (by omega) hz, fun z => absurd ?_ z⟩
      rw [hlk.1, hb]
      rfl
theorem r93 {A : aSt} {ck : Nat} {S : zS} (hl : lkM S ck A) (h : rG A) (hck : ck + 40 < 2 ^ 31) (hlf : (gC (aDown A key).1 (aDown A key).2).1 = false) (hQ : ∀ (S' : zS) (ck' : Nat), lkM S' ck' (aDown A key).1 → mlook S' (gC (aDown A key).1 (aDown A key).2) → ck' ≤ ck + 40 → zfr S S' pml → Q (.inl (some (.inl (nI (aDown A key).2)))) (S', d)) : zwp 93 (0, zent 93 [.inr (some (16, 0)), .inl (nI key)], [], (S, d)) Q := by
  have h0 := gM_pos A
  refine w93_0 (zwp_mono (r86 (p := 0) hl h.1.1 h.1.2.1 (by omega) (by decide)) (fun o t z => ?_))
  obtain ⟨S1, rfl, rfl, z1, g1⟩ := z
  have hxm : 0 < gM (aFix A 0) := by rw [gM_fix]; exact h0
  refine w93_7 (rlook g1 (rG_fix h h0) hxm (fun S2 z2 g2 k2 => ?_))
  exact r93L 39 (aFix A 0) 0 (ck + 1) S2 g2 (rG_fix h h0) hxm k2 (pml_l (pml_m pml_rf z1) z2) (by omega) hlf (fun S' ck' q1 q2 q3 q4 => hQ S' ck' q1 q2 (by omega) q4)
end R93
-- change
section R94
variable {Q : zO → zT → Prop} {S : zS} {d ck : Nat} {A : aSt}
theorem r94 {K p k s u : Nat} {v x : Int32} (hl : lkM S ck A) (h : rG A) (hp : p < gM A) (hfx : fixd A p) (hlf : (gC A p).1 = false) (hu : S 1054 0 0 = nI u) (hu2 : u ≤ 1144) (hs : s < 2000) (hk : k < 40) (hK : K = 1 ∨ K = 2) (hv : K = 1 → x = v) (hn : gN A < 1144) (hck : ck + 1 < 2 ^ 31) (kk : ∀ S', zfr S S' pml → lkM S' (ck + 1) (aAdd A (aChg K p s u (gN A + 1) k v (gC A p))) → Q (.inl none) (S', d)) :
    zwp 94 (0, zent 94 [.inr (some (16, 0)), .inl (nI K), .inl (nI p), .inl (nI k), .inl x, .inl (nI s)], [], (S, d)) Q := by
  have h40 := gM_le h.1.1
  have hwc := h.1.1.con p
  refine w94_0 (zwp_mono (r86 (p := p) hl h.1.1 h.1.2.1 hck (by omega)) (fun o t z => ?_))
  obtain ⟨S1, rfl, rfl, z1, g1⟩ := z
  rw [hfx] at g1
  refine w94_5 (rlook g1 h hp (fun S2 z2 g2 k2 => ?_))
  refine w94_10 (zwp_mono (r82 k2 hwc (by omega)) (fun o t z => ?_))
  obtain ⟨rfl, rfl⟩ := z
  refine w94_15 (zwp_mono (r88 (K := K) (p := p) g2.n.size (by omega) (by omega) (by omega)) (fun o t z => ?_))
  obtain ⟨S3, rfl, rfl, f3, u25, u88, u52, u16, u36, u00⟩ := z
  have h54 : S3 1054 0 0 = nI u := by
    rw [f3 _ _ _ (by omega), z2 _ _ _ (by show ¬ (_ ∨ _); omega), z1 _ _ _ (by show ¬ (_ ∨ _); omega)]
    exact hu
  have h48 : ∀ j, S3 2048 0 j = S2 2048 0 j := fun j => f3 _ _ _ (by omega)
  have fin : ∀ (bb ww : Int32) (x6 : Int32), bb = b2i (decide (k ∈ (gC A p).2.1)) → ww = aOld k (gC A p) → zwp 94 (92, [some (.inr (some (16, 0))), some (.inl (nI K)), some (.inl (nI p)), some (.inl (nI k)), some (.inl x), some (.inl (nI s)), some (.inl x6), some (.inl (nI (gN A + 1)))], [.inl ww, .inl (nI (gN A + 1)), .inr (some (23, 0))], (zu (zu (zu (zu S3 1216 0 (gN A + 1) (nI s)) 1280 0 (gN A + 1) (nI k)) 1344 0 (gN A + 1) x) 1408 0 (gN A + 1) bb, d)) Q := by
    intro bb ww x6 hb hw
    refine w94_92 ⟨gN A + 1, rfl, by omega, gN A + 1, rfl, by omega, ?_⟩
    have e54 : zu (zu (zu (zu S3 1216 0 (gN A + 1) (nI s)) 1280 0 (gN A + 1) (nI k)) 1344 0 (gN A + 1) x) 1408 0 (gN A + 1) bb 1054 0 0 = nI u := by
      rw [zu_f _ _ (by decide), zu_f _ _ (by decide), zu_f _ _ (by decide), zu_f _ _ (by decide)]
      exact h54
    rw [e54, nars (by omega)]
    clear e54
    have hk6 : ∀ f i j, f ≠ 1216 → f ≠ 1280 → f ≠ 1344 → f ≠ 1408 → f ≠ 1472 → f ≠ 1536 → zu (zu (zu (zu (zu (zu S3 1216 0 (gN A + 1) (nI s)) 1280 0 (gN A + 1) (nI k)) 1344 0 (gN A + 1) x) 1408 0 (gN A + 1) bb) 1472 0 (gN A + 1) ww) 1536 0 (gN A + 1) (nI u) f i j = S3 f i j := fun f i j q1 q2 q3 q4 q5 q6 => by rw [zu_f _ _ q6, zu_f _ _ q5, zu_f _ _ q4, zu_f _ _ q3, zu_f _ _ q2, zu_f _ _ q1]
    have v1 : zu (zu (zu (zu (zu (zu S3 1216 0 (gN A + 1) (nI s)) 1280 0 (gN A + 1) (nI k)) 1344 0 (gN A + 1) x) 1408 0 (gN A + 1) bb) 1472 0 (gN A + 1) ww) 1536 0 (gN A + 1) (nI u) 1216 0 (gN A + 1) = nI s := by rw [zu_f _ _ (by decide), zu_f _ _ (by decide), zu_f _ _ (by decide), zu_f _ _ (by decide), zu_f _ _ (by decide), zu_self]
    have v2 : zu (zu (zu (zu (zu (zu S3 1216 0 (gN A + 1) (nI s)) 1280 0 (gN A + 1) (nI k)) 1344 0 (gN A + 1) x) 1408 0 (gN A + 1) bb) 1472 0 (gN A + 1) ww) 1536 0 (gN A + 1) (nI u) 1280 0 (gN A + 1) = nI k := by rw [zu_f _ _ (by decide), zu_f _ _ (by decide), zu_f _ _ (by decide), zu_f _ _ (by decide), zu_self]
    have v3 : zu (zu (zu (zu (zu (zu S3 1216 0 (gN A + 1) (nI s)) 1280 0 (gN A + 1) (nI k)) 1344 0 (gN A + 1) x) 1408 0 (gN A + 1) bb) 1472 0 (gN A + 1) ww) 1536 0 (gN A + 1) (nI u) 1344 0 (gN A + 1) = x := by rw [zu_f _ _ (by decide), zu_f _ _ (by decide), zu_f _ _ (by decide), zu_self]
    have v4 : zu (zu (zu (zu (zu (zu S3 1216 0 (gN A + 1) (nI s)) 1280 0 (gN A + 1) (nI k)) 1344 0 (gN A + 1) x) 1408 0 (gN A + 1) bb) 1472 0 (gN A + 1) ww) 1536 0 (gN A + 1) (nI u) 1408 0 (gN A + 1) = bb := by rw [zu_f _ _ (by decide), zu_f _ _ (by decide), zu_self]
    have v5 : zu (zu (zu (zu (zu (zu S3 1216 0 (gN A + 1) (nI s)) 1280 0 (gN A + 1) (nI k)) 1344 0 (gN A + 1) x) 1408 0 (gN A + 1) bb) 1472 0 (gN A + 1) ww) 1536 0 (gN A + 1) (nI u) 1472 0 (gN A + 1) = ww := by rw [zu_f _ _ (by decide), zu_self]
    have v6 : zu (zu (zu (zu (zu (zu S3 1216 0 (gN A + 1) (nI s)) 1280 0 (gN A + 1) (nI k)) 1344 0 (gN A + 1) x) 1408 0 (gN A + 1) bb) 1472 0 (gN A + 1) ww) 1536 0 (gN A + 1) (nI u) 1536 0 (gN A + 1) = nI u := zu_self _ _ _ _ _
    have hfr : ∀ f i j, ¬ (f = 1025 ∨ (1088 ≤ f ∧ f ≤ 1600 ∧ j = gN A + 1)) → zu (zu (zu (zu (zu (zu S3 1216 0 (gN A + 1) (nI s)) 1280 0 (gN A + 1) (nI k)) 1344 0 (gN A + 1) x) 1408 0 (gN A + 1) bb) 1472 0 (gN A + 1) ww) 1536 0 (gN A + 1) (nI u) f i j = S2 f i j := by
      intro f i j hf
      have e : ∀ g, 1088 ≤ g → g ≤ 1600 → ¬ (f = g ∧ i = 0 ∧ j = gN A + 1) := fun g q1 q2 z => hf (Or.inr ⟨by omega, by omega, z.2.2⟩)
      unfold zu
      rw [if_neg (e _ (by decide) (by decide)), if_neg (e _ (by decide) (by decide)), if_neg (e _ (by decide) (by decide)), if_neg (e _ (by decide) (by decide)), if_neg (e _ (by decide) (by decide)), if_neg (e _ (by decide) (by decide))]
      exact f3 f i j (by omega)
    have w25 := (hk6 1025 0 0 (by decide) (by decide) (by decide) (by decide) (by decide) (by decide)).trans u25
    have w88 := (hk6 1088 0 (gN A + 1) (by decide) (by decide) (by decide) (by decide) (by decide) (by decide)).trans u88
    have w52 := (hk6 1152 0 (gN A + 1) (by decide) (by decide) (by decide) (by decide) (by decide) (by decide)).trans u52
    have w00 := (hk6 1600 0 (gN A + 1) (by decide) (by decide) (by decide) (by decide) (by decide) (by decide)).trans u00
    generalize zu (zu (zu (zu (zu (zu S3 1216 0 (gN A + 1) (nI s)) 1280 0 (gN A + 1) (nI k)) 1344 0 (gN A + 1) x) 1408 0 (gN A + 1) bb) 1472 0 (gN A + 1) ww) 1536 0 (gN A + 1) (nI u) = S7 at *
    obtain ⟨g7, z7⟩ := radd (S' := S7) (x := aChg K p s u (gN A + 1) k v (gC A p)) g2 h.1.2.2.2.1 hfr w25 ⟨w88, fun _ => w52, v1, v6, 0, w00, by decide, rfl⟩ (by
      unfold mB
      rw [upL_self]
      rcases hK with e | e
      · subst e
        exact ⟨v2, v3.trans (hv rfl), v4.trans hb, v5.trans hw⟩
      · subst e
        exact ⟨v2, v4.trans hb, v5.trans hw⟩) (by show ¬ K = 3; omega) (fun _ => hp)
    exact kk S7 (pml_m (pml_l (pml_m pml_rf z1) z2) z7) g7
  refine w94_23 ⟨gN A + 1, rfl, by omega, gN A + 1, rfl, by omega, gN A + 1, rfl, by omega, ?_⟩
  rw [nars (by omega), narb (by omega)]
  by_cases hm : k ∈ (gC A p).2.1
  · have e1 : zix k (gC A p).2.1 = nI (lidx k (gC A p).2.1) := zix_in hm
    have hlt := (lidx_mem hm).1
    have h4 := hwc.1
    have hlt2 : lidx k (gC A p).2.1 < (gC A p).2.2.length := by
      rw [hwc.2.2.1, hlf, if_neg (by decide)]
      exact hlt
    obtain ⟨y, hy⟩ := lget hlt2
    have hnn : ¬ nI (lidx k (gC A p).2.1) < 0 := by
      rw [← nI_0, nI_lt_iff (by omega) (by decide)]
      omega
    rw [e1]
    refine ⟨fun z => absurd z hnn, fun _ => w94_69 ⟨gN A + 1, rfl, by omega, fun z => absurd z hnn, fun _ => ⟨lidx k (gC A p).2.1, rfl, by omega, ?_⟩⟩⟩
    rw [show vp_nar .boolean (nI 1) = nI 1 by decide]
    refine fin (nI 1) _ _ (by rw [decide_eq_true hm]; rfl) ?_
    rw [zu_f _ _ (by decide), zu_f _ _ (by decide), zu_f _ _ (by decide), h48]
    rw [k2.2.2.2 _ _ hy]
    unfold aOld
    rw [if_pos hm, List.getD_eq_getElem?_getD, hy]
    rfl
  · rw [zix_out hm]
    refine ⟨fun _ => w94_69 ⟨gN A + 1, rfl, by omega, fun _ => ?_, fun z => absurd (by decide) z⟩, fun z => absurd (by decide) z⟩
    rw [nar0]
    refine fin (nI 0) _ _ (by rw [decide_eq_false hm]; rfl) ?_
    unfold aOld
    rw [if_neg hm]
end R94
