/-! The reference: place. -/
-- what the way down with splits needs: it comes to a leaf
def rokS (key : Nat) : Nat → aSt → Nat → Nat → Prop
  | 0, _, _, _ => False
  | f + 1, A, par, p => rG A ∧ p < gM A ∧ par < gM A ∧ ((gC A p).2.1.length = 4 → okSp (aFix A p) par p) ∧ ((gC (aStep key A par p).1 (aStep key A par p).2).1 = true → rokS key f (aStep key A par p).1 (aStep key A par p).2 (cChild key (gC (aStep key A par p).1 (aStep key A par p).2)))
theorem step_k {key par p : Nat} {A : aSt} (h : rG A) (hp : p < gM A) (ho : (gC A p).2.1.length = 4 → okSp (aFix A p) par p) : rG (aStep key A par p).1 ∧ (aStep key A par p).2 < gM (aStep key A par p).1 ∧ fixd (aStep key A par p).1 (aStep key A par p).2 ∧ gN A ≤ gN (aStep key A par p).1 := by
  have ea := @aStep_e key A par p
  have h1 := rG_fix h hp
  by_cases h4 : (gC A p).2.1.length = 4
  · rw [ea.1 (by rw [gC_fix]; exact h4)]
    obtain ⟨r1, r2, r3⟩ := rG_split (key := key) h1 (by rw [gC_fix]; exact h4) (ho h4)
    generalize aSplit key (aFix A p) par p = x at *
    refine ⟨rG_fix r1 r2, ?_, fixd_fix r1.1.1, ?_⟩
    · show x.2 < gM (aFix x.1 x.2)
      rw [gM_fix]
      exact r2
    · show gN A ≤ gN (aFix x.1 x.2)
      rw [log_fix.2, r3, log_fix.2]
      omega
  · rw [ea.2 (by rw [gC_fix]; exact h4)]
    refine ⟨h1, ?_, fixd_fix h.1.1, ?_⟩
    · show p < gM (aFix A p)
      rw [gM_fix]
      exact hp
    · show gN A ≤ gN (aFix A p)
      rw [log_fix.2]
      exact Nat.le_refl _
theorem dnS_k {key : Nat} : ∀ (f : Nat) (A : aSt) (par p : Nat), rokS key f A par p → rG (aDnS key f A par p).1 ∧ (aDnS key f A par p).2 < gM (aDnS key f A par p).1 ∧ fixd (aDnS key f A par p).1 (aDnS key f A par p).2 ∧ (gC (aDnS key f A par p).1 (aDnS key f A par p).2).1 = false ∧ gN A ≤ gN (aDnS key f A par p).1
  | 0, _, _, _, h => h.elim
  | f + 1, A, par, p, h => by
    obtain ⟨h1, h2, h3, h4, h5⟩ := h
    obtain ⟨s1, s2, s3, s4⟩ := step_k (key := key) (par := par) h1 h2 h4
    have hD : aDnS key (f + 1) A par p = if (gC (aStep key A par p).1 (aStep key A par p).2).1 = true then aDnS key f (aStep key A par p).1 (aStep key A par p).2 (cChild key (gC (aStep key A par p).1 (aStep key A par p).2)) else aStep key A par p := rfl
    rw [hD]
    generalize aStep key A par p = x at *
    by_cases hb : (gC x.1 x.2).1 = true
    · rw [if_pos hb]
      obtain ⟨r1, r2, r3, r4, r5⟩ := dnS_k f x.1 x.2 _ (h5 hb)
      exact ⟨r1, r2, r3, r4, Nat.le_trans s4 r5⟩
    · rw [if_neg hb]
      refine ⟨s1, s2, s3, ?_, s4⟩
      cases hx : (gC x.1 x.2).1 with
      | true => exact absurd hx hb
      | false => rfl
section R95
variable {Q : zO → zT → Prop} {S0 : zS} {d key n0 : Nat} {v s : Int32}
-- behind the split
theorem r95C {f par ck c : Nat} {x : aSt × Nat} {D : aSt × Nat} {S : zS} (hl : lkM S ck x.1) (hr : rG x.1) (hx : x.2 < gM x.1) (hlk : mlook S (gC x.1 x.2)) (hz : zfr S0 S pml) (hck : ck + 5 * f + 5 < 2 ^ 31) (hN : gN x.1 = n0 + 3 * c)
    (hD1 : (gC x.1 x.2).1 = false → D = x)
    (go : (gC x.1 x.2).1 = true → ∀ (S : zS) (ck1 : Nat), lkM S ck1 (aFix x.1 (cChild key (gC x.1 x.2))) → mlook S (gC x.1 (cChild key (gC x.1 x.2))) → zfr S0 S pml → ck1 ≤ ck + 1 → zwp 95 (39, [some (.inr (some (16, 0))), some (.inl (nI key)), some (.inl v), some (.inl s), some (.inl (nI c)), some (.inl (nI (cChild key (gC x.1 x.2)))), some (.inl (nI x.2)), some (.inl (nI 1))], [], (S, d)) Q)
    (hQ : (gC x.1 x.2).1 = false → ∀ (S' : zS) (ck' c' : Nat) (x6 x7 : Int32), lkM S' ck' D.1 → zfr S0 S' pml → gN D.1 = n0 + 3 * c' → ck' ≤ ck → zwp 94 (0, zent 94 [.inr (some (16, 0)), .inl (nI 1), .inl (nI D.2), .inl (nI key), .inl v, .inl s], [], (S', d)) (zaf 95 125 [some (.inr (some (16, 0))), some (.inl (nI key)), some (.inl v), some (.inl s), some (.inl (nI c')), some (.inl (nI D.2)), some (.inl x6), some (.inl x7)] [] Q)) :
    ∀ x7, zwp 95 (78, [some (.inr (some (16, 0))), some (.inl (nI key)), some (.inl v), some (.inl s), some (.inl (nI c)), some (.inl (nI x.2)), some (.inl (nI par)), some (.inl x7)], [], (S, d)) Q := by
  intro x7
  have h40 := gM_le hr.1.1
  have h48 := hlk.1
  cases hb : (gC x.1 x.2).1 with
  | false =>
    rw [hb] at h48
    have h48 : S 1048 0 0 = 0 := h48
    rw [hD1 hb] at hQ
    refine w95_78 ⟨fun _ => ?_, fun z => absurd h48 z⟩
    refine w95_39 ⟨fun _ => hQ hb S ck c _ _ hl hz hN (Nat.le_refl _), fun z => absurd h48 z⟩
  | true =>
    rw [hb] at h48
    have h48 : S 1048 0 0 = nI 1 := h48
    have hc := hr.2.2.2.1 x.2 hb _ (cChild_mem (k := key) (hr.1.1.con x.2) hb)
    have go := go hb
    refine w95_78 ⟨fun z => absurd (h48.symm.trans z) i01, fun _ => zwp_mono (r92 (k := key) hlk (hr.1.1.con x.2) hb) (fun o t z => ?_)⟩
    obtain ⟨rfl, rfl⟩ := z
    rw [h48]
    generalize cChild key (gC x.1 x.2) = y at *
    refine w95_98 (zwp_mono (r86 (p := y) hl hr.1.1 hr.1.2.1 (by omega) (by omega)) (fun o t z => ?_))
    obtain ⟨S1, rfl, rfl, z1, g1⟩ := z
    refine w95_106 (rlook (p := y) g1 (rG_fix hr hc) (by rw [gM_fix]; exact hc) (fun S2 z2 g2 k2 => ?_))
    rw [gC_fix] at k2
    exact w95_112 (go S2 (ck + 1) g2 k2 (pml_l (pml_m hz z1) z2) (Nat.le_refl _))
theorem r95L : ∀ (f : Nat) (A : aSt) (par p ck c : Nat) (S : zS), rokS key f A par p → lkM S ck (aFix A p) → mlook S (gC A p) → zfr S0 S pml → ck + 5 * f + 5 < 2 ^ 31 → gN A = n0 + 3 * c →
    (∀ (S' : zS) (ck' c' : Nat) (x6 x7 : Int32), lkM S' ck' (aDnS key f A par p).1 → zfr S0 S' pml → gN (aDnS key f A par p).1 = n0 + 3 * c' → ck' ≤ ck + 5 * f → zwp 94 (0, zent 94 [.inr (some (16, 0)), .inl (nI 1), .inl (nI (aDnS key f A par p).2), .inl (nI key), .inl v, .inl s], [], (S', d)) (zaf 95 125 [some (.inr (some (16, 0))), some (.inl (nI key)), some (.inl v), some (.inl s), some (.inl (nI c')), some (.inl (nI (aDnS key f A par p).2)), some (.inl x6), some (.inl x7)] [] Q)) →
    zwp 95 (39, [some (.inr (some (16, 0))), some (.inl (nI key)), some (.inl v), some (.inl s), some (.inl (nI c)), some (.inl (nI p)), some (.inl (nI par)), some (.inl (nI 1))], [], (S, d)) Q
  | 0, _, _, _, _, _, _, h, _, _, _, _, _, _ => h.elim
  | f + 1, A, par, p, ck, c, S, h, hl, hlk, hz, hck, hN, hQ => by
    obtain ⟨h1, h2, h3, h4, h5⟩ := h
    obtain ⟨s1, s2, s3, s4⟩ := step_k (key := key) (par := par) h1 h2 h4
    have ea := @aStep_e key A par p
    have hD : aDnS key (f + 1) A par p = if (gC (aStep key A par p).1 (aStep key A par p).2).1 = true then aDnS key f (aStep key A par p).1 (aStep key A par p).2 (cChild key (gC (aStep key A par p).1 (aStep key A par p).2)) else aStep key A par p := rfl
    rw [hD] at hQ
    have hr1 := rG_fix h1 h2
    have h40 := gM_le h1.1.1
    have hwl := (h1.1.1.con p).1
    have hNf : gN (aFix A p) = n0 + 3 * c := log_fix.2.trans hN
    -- what comes behind the step
    have aft : ∀ (x : aSt × Nat), aStep key A par p = x → ∀ (S1 : zS) (ck1 c1 : Nat) (x7 : Int32), lkM S1 ck1 x.1 → mlook S1 (gC x.1 x.2) → zfr S0 S1 pml → ck1 ≤ ck + 4 → gN x.1 = n0 + 3 * c1 → zwp 95 (78, [some (.inr (some (16, 0))), some (.inl (nI key)), some (.inl v), some (.inl s), some (.inl (nI c1)), some (.inl (nI x.2)), some (.inl (nI par)), some (.inl x7)], [], (S1, d)) Q := by
      intro x hx S1 ck1 c1 x7 g1 k1 z1 q1 q2
      rw [hx] at h5 s1 s2 s3 s4 hQ
      refine r95C (D := if (gC x.1 x.2).1 = true then aDnS key f x.1 x.2 (cChild key (gC x.1 x.2)) else x) (f := f) g1 s1 s2 k1 z1 (by omega) q2 (fun hb => by rw [if_neg (by rw [hb]; decide)]) (fun hb S2 ck2 g2 k2 z2 q3 => ?_) (fun hb S2 ck2 c2 x6 x7 g2 z2 q3 q4 => hQ S2 ck2 c2 x6 x7 g2 z2 q3 (by omega)) x7
      rw [if_pos hb] at hQ
      exact r95L f x.1 x.2 _ ck2 c1 S2 (h5 hb) g2 k2 z2 (by omega) q2 (fun S3 ck3 c3 x6 x7 g3 z3 q5 q6 => hQ S3 ck3 c3 x6 x7 g3 z3 q5 (by omega))
    refine w95_39 ⟨fun z => absurd z i01, fun _ => ⟨fun hf => ?_, fun hf => ?_⟩⟩
    · rw [hlk.2.1, nI_eq_iff (by omega) (by decide)] at hf
      have e1 := ea.1 (by rw [gC_fix]; exact hf)
      have hlk1 : mlook S (gC (aFix A p) p) := by
        rw [gC_fix]
        exact hlk
      obtain ⟨r1, r2, r3⟩ := rG_split (key := key) hr1 (by rw [gC_fix]; exact hf) (h4 hf)
      have aft := aft _ e1
      refine r91 (key := key) (par := par) (p := p) hl hr1 hlk1 (by rw [gC_fix]; exact hf) (by omega) (h4 hf) (fun S1 z1 g1 => ?_)
      generalize aSplit key (aFix A p) par p = x at *
      have hx40 := gM_le r1.1.1
      refine w95_61 (zwp_mono (r86 (p := x.2) g1 r1.1.1 r1.1.2.1 (by omega) (by omega)) (fun o t z => ?_))
      obtain ⟨S2, rfl, rfl, z2, g2⟩ := z
      refine w95_72 (rlook (p := x.2) g2 (rG_fix r1 r2) (by rw [gM_fix]; exact r2) (fun S3 z3 g3 k3 => ?_))
      rw [nI_add]
      exact aft S3 (ck + 4) (c + 1) _ g3 k3 (pml_l (pml_m (pml_m hz z1) z2) z3) (Nat.le_refl _) (by show gN (aFix x.1 x.2) = _; rw [log_fix.2, r3, hNf]; omega)
    · rw [hlk.2.1, nI_eq_iff (by omega) (by decide)] at hf
      have e1 := ea.2 (by rw [gC_fix]; exact hf)
      exact aft _ e1 S ck c _ hl (by show mlook S (gC (aFix A p) p); rw [gC_fix]; exact hlk) hz (by omega) hNf
end R95
-- what the reference's place needs
def rokP (A : aSt) (k : Nat) : Prop := (gC (aDown A k).1 (aDown A k).2).1 = false ∧ (k ∉ (gC (aDown A k).1 (aDown A k).2).2.1 → rokS k 40 (aDown A k).1 0 0) ∧ gN (aPutP A k).1 < 1144
theorem putP_k {A : aSt} {k : Nat} (h : rG A) (ho : rokP A k) : rG (aPutP A k).1 ∧ (aPutP A k).2 < gM (aPutP A k).1 ∧ fixd (aPutP A k).1 (aPutP A k).2 ∧ (gC (aPutP A k).1 (aPutP A k).2).1 = false ∧ gN A ≤ gN (aPutP A k).1 := by
  obtain ⟨o1, o2, -⟩ := ho
  obtain ⟨r1, r2, r3, r4, r5⟩ := aDown_k (key := k) h
  have hM : gM (aDown A k).1 = gM A := by
    unfold gM
    rw [r4, r5]
  unfold aPutP
  generalize aDown A k = D at *
  split
  · exact ⟨r1, by rw [hM]; exact r2, r3, o1, Nat.le_of_eq r5.symm⟩
  · rename_i hm
    obtain ⟨q1, q2, q3, q4, q5⟩ := dnS_k 40 D.1 0 0 (o2 hm)
    exact ⟨q1, q2, q3, q4, by omega⟩
section R95F
variable {Q : zO → zT → Prop} {S : zS} {d ck : Nat} {A : aSt}
theorem r95 {s k u : Nat} {v : Int32} (hl : lkM S ck A) (h : rG A) (ho : rokP A k) (hk : k < 40) (hs : s < 2000) (hu : S 1054 0 0 = nI u) (hu2 : u ≤ 1144) (hck : ck + 300 < 2 ^ 31)
    (kk : ∀ S' ck', zfr S S' pml → lkM S' ck' (aPut A s k v u).1 → ck' ≤ ck + 300 → Q (.inl (some (.inl (nI (aPut A s k v u).2)))) (S', d)) :
    zwp 95 (0, zent 95 [.inr (some (16, 0)), .inl (nI k), .inl v, .inl (nI s)], [], (S, d)) Q := by
  have hpk := putP_k h ho
  obtain ⟨o1, o2, o3⟩ := ho
  obtain ⟨r1, r2, r3, r4, r5⟩ := aDown_k (key := k) h
  have h0 := gM_pos A
  have hM : gM (aDown A k).1 = gM A := by
    unfold gM
    rw [r4, r5]
  have hP : aPutP A k = if k ∈ (gC (aDown A k).1 (aDown A k).2).2.1 then aDown A k else aDnS k 40 (aDown A k).1 0 0 := rfl
  have kk : ∀ S' ck', zfr S S' pml → lkM S' ck' (aSet (aPutP A k) s k v u) → ck' ≤ ck + 300 → Q (.inl (some (.inl (nI ((gN (aPutP A k).1 - gN A) / 3))))) (S', d) := kk
  have u54 : ∀ S' : zS, zfr S S' pml → S' 1054 0 0 = nI u := fun S' z => by
    rw [z _ _ _ (by show ¬ ((_ ∨ _) ∨ (_ ∨ _)); omega)]
    exact hu
  refine w95_0 (r93 (key := k) hl h (by omega) o1 (fun S1 ck1 g1 k1 q1 z1 => ?_))
  generalize aDown A k = D at *
  generalize hB : aPutP A k = B at *
  obtain ⟨t1, t2, t3, t4, t5⟩ := hpk
  have hwl := (r1.1.1.con D.2).1
  -- the change
  have fin : ∀ (S' : zS) (ck' c' : Nat) (x6 x7 : Option zV), lkM S' ck' B.1 → zfr S S' pml → gN B.1 = gN A + 3 * c' → ck' ≤ ck + 290 → zwp 94 (0, zent 94 [.inr (some (16, 0)), .inl (nI 1), .inl (nI B.2), .inl (nI k), .inl v, .inl (nI s)], [], (S', d)) (zaf 95 125 [some (.inr (some (16, 0))), some (.inl (nI k)), some (.inl v), some (.inl (nI s)), some (.inl (nI c')), some (.inl (nI B.2)), x6, x7] [] Q) := by
    intro S' ck' c' x6 x7 g2 z2 q2 q3
    refine r94 (K := 1) (v := v) g2 t1 t2 t3 t4 (u54 S' z2) hu2 hs hk (Or.inl rfl) (fun _ => rfl) o3 (by omega) (fun S3 z3 g3 => ?_)
    have e : nI c' = nI ((gN B.1 - gN A) / 3) := by
      congr 1
      omega
    rw [e]
    exact w95_125 (kk S3 (ck' + 1) (pml_tr z2 z3) g3 (by omega))
  refine w95_8 (zwp_mono (r82 k1 (r1.1.1.con D.2) (by omega)) (fun o t z => ?_))
  obtain ⟨rfl, rfl⟩ := z
  refine w95_15 ⟨fun z => ?_, fun z => ?_⟩
  · have hm : k ∈ (gC D.1 D.2).2.1 := by
      by_cases hm : k ∈ (gC D.1 D.2).2.1
      · exact hm
      · rw [zix_out hm] at z
        exact absurd z (by decide)
    rw [if_pos hm] at hP
    subst hP
    exact fin S1 ck1 0 none none g1 z1 (by omega) (by omega)
  · have hm : k ∉ (gC D.1 D.2).2.1 := fun hm => by
      have := (lidx_mem hm).1
      rw [zix_in hm, ← nI_0, nI_le_iff (by decide) (by omega)] at z
      omega
    rw [if_neg hm] at hP
    have hok := o2 hm
    refine zwp_mono (r86 (p := 0) g1 r1.1.1 r1.1.2.1 (by omega) (by decide)) (fun o t z => ?_)
    obtain ⟨S2, rfl, rfl, z2, g2⟩ := z
    have h0D : 0 < gM D.1 := by omega
    refine w95_30 (rlook (p := 0) g2 (rG_fix r1 h0D) (by rw [gM_fix]; exact h0D) (fun S3 z3 g3 k3 => ?_))
    rw [gC_fix] at k3
    refine w95_36 (r95L (n0 := gN A) (c := 0) 40 D.1 0 0 (ck1 + 1) S3 hok g3 k3 (pml_l (pml_m z1 z2) z3) (by omega) (by omega) (fun S4 ck4 c4 x6 x7 g4 z4 q4 q5 => ?_))
    rw [← hP] at g4 q4 ⊢
    exact fin S4 ck4 c4 _ _ g4 z4 q4 (by omega)
end R95F
