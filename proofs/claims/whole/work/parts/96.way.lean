/-! The way down in the tree; putting. -/
theorem JJ_split {A : aSt} {par p key ss : Nat} {lo hi lv up : Nat → Nat} (hJ : JJ A ss) (hg : gho A lo hi lv up) (hp : p < gM A) (h4 : (gC A p).2.1.length = 4) (hpos : pos A par p) (h1 : lo p ≤ key) (h2 : key < hi p) :
    okSp A par p ∧ JJ (aSplit key A par p).1 ss ∧ sx A (aSplit key A par p).1 ∧ (∃ lo' hi' lv' up', gho (aSplit key A par p).1 lo' hi' lv' up' ∧ lo' (aSplit key A par p).2 ≤ key ∧ key < hi' (aSplit key A par p).2 ∧ lv' (aSplit key A par p).2 = lv p) ∧ (gC (aSplit key A par p).1 (aSplit key A par p).2).2.1.length = 2 ∧ (aSplit key A par p).2 < gM (aSplit key A par p).1 := by
  have hn := hJ.n
  obtain ⟨s, hh⟩ := tre_hlf hg hp h4
  have hmid := hh.1
  have hT := hJ.t
  have hM1 := gM_pos A
  have hhi := (hg.2.2.1 p hp).2.1
  have hs40 : s < 40 := by
    have := hh.2.2.1
    omega
  have hcmp : (cMid (gC A p) ≤ nI key) = (s ≤ key) := by rw [hmid, nI_le_iff (by omega) (by omega)]
  rcases hpos with ⟨p0, q0⟩ | ⟨p0, o1, o2, o3, o4⟩
  · subst p0
    subst q0
    obtain ⟨lo', hi', lv', up', ht, t1, t2, t3, t4, t5, t6⟩ := tre_root (C' := fun x => if x = 0 then (true, [gM A, gM A + 1], [cMid (gC A 0)]) else if x = gM A then cHalf (gC A 0) 0 else if x = gM A + 1 then cHalf (gC A 0) 2 else gC A x) hg hM1 h4 hh (fun x => rfl)
    have hM := tre_M ht
    obtain ⟨r1, r2, r3, r4⟩ := spR_k hJ.1 h4 (by omega) (by omega)
    obtain ⟨g1, g2, g3, g4⟩ := GT_spR hJ.2.1
    have eI : (if cMid (gC A 0) ≤ nI key then gM A + 1 else gM A) = if s ≤ key then gM A + 1 else gM A := by
      by_cases z : s ≤ key
      · rw [if_pos z, if_pos (by rw [hcmp]; exact z)]
      · rw [if_neg z, if_neg (by rw [hcmp]; exact z)]
    have e : aSplit key A 0 0 = (aSpR A, if s ≤ key then gM A + 1 else gM A) := by
      unfold aSplit
      rw [if_pos rfl, eI]
    generalize aSpR A = B at *
    have gh : gho (B) lo' hi' lv' up' := by
      unfold gho
      rw [r2]
      exact tre_pr ht (fun k => g2.1 k) r4
    have hJB : JJ (B) ss := by
      refine JJ_sx hJ g2 r1 g1 (WT_grow hJ.2.2.1 g2.2.2.2.2.2.2.2.1 (fun m q1 q2 => ⟨gN A + 1, by omega, by omega, g3 m q1 (by omega)⟩) ⟨⟨lo', hi', lv', up', gh⟩, ?_, r1.2.2.2.2⟩)
      have h5 := hT.2.1
      have e5 : pgs (gL (B)) (gN (B)) = gM A + 2 := r2
      have e6 : pgs (gL A) (gN A) = gM A := rfl
      rw [g4, e5]
      omega
    have h40 : hi 0 = 40 := hg.2.1
    rw [e]
    refine ⟨⟨by omega, fun _ => by omega, fun z => absurd rfl z⟩, hJB, g2, ⟨lo', hi', lv', up', gh, ?_, ?_, ?_⟩, ?_, ?_⟩
    · show lo' (if s ≤ key then gM A + 1 else gM A) ≤ key
      split <;> omega
    · show key < hi' (if s ≤ key then gM A + 1 else gM A)
      split <;> omega
    · show lv' (if s ≤ key then gM A + 1 else gM A) = lv 0
      split
      · exact t6
      · exact t5
    · show (gC (B) (if s ≤ key then gM A + 1 else gM A)).2.1.length = 2
      by_cases z : s ≤ key
      · rw [if_pos z, r4, if_neg (by omega), if_neg (by omega), if_pos rfl]
        exact half_len h4 (Or.inr rfl)
      · rw [if_neg z, r4, if_neg (by omega), if_pos rfl]
        exact half_len h4 (Or.inl rfl)
    · show (if s ≤ key then gM A + 1 else gM A) < gM (B)
      rw [r2]
      split <;> omega
  · have hsep : cSep (gC A p) = s := by
      unfold cSep
      rw [hmid]
      exact nI_nat (by omega)
    obtain ⟨lo', hi', lv', up', ht, t1, t2, t3, t4, t5, t6⟩ := tre_below (C' := fun x => if x = par then cLink s (gM A) p (gC A par) else if x = p then cCut (gC A p) else if x = gM A then cHalf (gC A p) 2 else gC A x) hg hp p0 o1 o2 o3 h4 hh (fun x => rfl)
    have hM := tre_M ht
    have hne : p ≠ par := fun z => by
      have z1 := (chn_mem ((hg.2.2.1 par o1).2.2.2.2 o2).2 o3).1.2.2.1
      rw [z] at z1
      omega
    obtain ⟨r1, r2, r3, r4⟩ := spB_k (par := par) (s := s) hJ.1 h4 (by omega) (by omega) hp o1 hne (by omega) o2 o3 o4
    obtain ⟨g1, g2, g3, g4⟩ := GT_spB (par := par) (p := p) (s := s) hJ.2.1 hp o1
    have eI : (if cMid (gC A p) ≤ nI key then gM A else p) = if s ≤ key then gM A else p := by
      by_cases z : s ≤ key
      · rw [if_pos z, if_pos (by rw [hcmp]; exact z)]
      · rw [if_neg z, if_neg (by rw [hcmp]; exact z)]
    have e : aSplit key A par p = (aSpB A par p s, if s ≤ key then gM A else p) := by
      unfold aSplit
      rw [if_neg p0, hsep, eI]
    generalize aSpB A par p s = B at *
    have gh : gho (B) lo' hi' lv' up' := by
      unfold gho
      rw [r2]
      exact tre_pr ht (fun k => g2.1 k) r4
    have hJB : JJ (B) ss := by
      refine JJ_sx hJ g2 r1 g1 (WT_grow hJ.2.2.1 g2.2.2.2.2.2.2.2.1 (fun m q1 q2 => ⟨gN A + 1, by omega, by omega, g3 m q1 (by omega)⟩) ⟨⟨lo', hi', lv', up', gh⟩, ?_, r1.2.2.2.2⟩)
      have h5 := hT.2.1
      have e5 : pgs (gL (B)) (gN (B)) = gM A + 1 := r2
      have e6 : pgs (gL A) (gN A) = gM A := rfl
      rw [g4, e5]
      omega
    rw [e]
    refine ⟨⟨by omega, fun z => absurd z p0, fun _ => ⟨by omega, hp, o1, hne, by omega, by rw [hsep]; exact hmid, o2, o3, o4⟩⟩, hJB, g2, ⟨lo', hi', lv', up', gh, ?_, ?_, ?_⟩, ?_, ?_⟩
    · show lo' (if s ≤ key then gM A else p) ≤ key
      split <;> omega
    · show key < hi' (if s ≤ key then gM A else p)
      split <;> omega
    · show lv' (if s ≤ key then gM A else p) = lv p
      split
      · exact t5
      · exact t6
    · show (gC (B) (if s ≤ key then gM A else p)).2.1.length = 2
      by_cases z : s ≤ key
      · rw [if_pos z, r4, if_neg (by omega), if_neg (by omega), if_pos rfl]
        exact half_len h4 (Or.inr rfl)
      · rw [if_neg z, r4, if_neg hne, if_pos rfl, cut_half]
        exact half_len h4 (Or.inl rfl)
    · show (if s ≤ key then gM A else p) < gM (B)
      rw [r2]
      split <;> omega
theorem pos_fix {A : aSt} {par p q : Nat} (h : pos A par p) : pos (aFix A q) par p := by
  unfold pos
  rw [gM_fix, gC_fix]
  exact h
-- a step of the way down
theorem step_ok {A : aSt} {par p key ss : Nat} {lo hi lv up : Nat → Nat} (hJ : JJ A ss) (hg : gho A lo hi lv up) (hp : p < gM A) (hpos : pos A par p) (h1 : lo p ≤ key) (h2 : key < hi p) :
    ((gC A p).2.1.length = 4 → okSp (aFix A p) par p) ∧ JJ (aStep key A par p).1 ss ∧ sx A (aStep key A par p).1 ∧ (aStep key A par p).2 < gM (aStep key A par p).1 ∧ (gC (aStep key A par p).1 (aStep key A par p).2).2.1.length < 4 ∧ ∃ lo' hi' lv' up', gho (aStep key A par p).1 lo' hi' lv' up' ∧ lo' (aStep key A par p).2 ≤ key ∧ key < hi' (aStep key A par p).2 ∧ lv' (aStep key A par p).2 = lv p := by
  have ea := @aStep_e key A par p
  have hJ1 := JJ_fix hJ hp
  by_cases h4 : (gC A p).2.1.length = 4
  · have h4' : (gC (aFix A p) p).2.1.length = 4 := by
      rw [gC_fix]
      exact h4
    rw [ea.1 h4']
    obtain ⟨k1, k2, k3, ⟨lo', hi', lv', up', k4, k5, k6, k7⟩, k8, k9⟩ := JJ_split (key := key) hJ1 (gho_fix hg) (by rw [gM_fix]; exact hp) h4' (pos_fix hpos) h1 h2
    generalize aSplit key (aFix A p) par p = x at *
    refine ⟨fun _ => k1, JJ_fix k2 k9, (sx_fix.tr k3).tr sx_fix, ?_, ?_, lo', hi', lv', up', gho_fix k4, k5, k6, k7⟩
    · show x.2 < gM (aFix x.1 x.2)
      rw [gM_fix]
      exact k9
    · show (gC (aFix x.1 x.2) x.2).2.1.length < 4
      rw [gC_fix, k8]
      decide
  · rw [ea.2 (by rw [gC_fix]; exact h4)]
    have hw := (hJ.1.1.1.con p).1
    refine ⟨fun z => absurd z h4, hJ1, sx_fix, ?_, ?_, lo, hi, lv, up, gho_fix hg, h1, h2, rfl⟩
    · show p < gM (aFix A p)
      rw [gM_fix]
      exact hp
    · show (gC (aFix A p) p).2.1.length < 4
      rw [gC_fix]
      omega
def LF (A : aSt) (p k : Nat) : Prop := p < gM A ∧ (gC A p).1 = false ∧ ∃ lo hi lv up, gho A lo hi lv up ∧ lo p ≤ k ∧ k < hi p
theorem dn_ok {key ss : Nat} : ∀ (f : Nat) (A : aSt) (par p : Nat) (lo hi lv up : Nat → Nat), JJ A ss → gho A lo hi lv up → p < gM A → pos A par p → lo p ≤ key → key < hi p → lv p < f →
    rokS key f A par p ∧ okS key f A par p ∧ JJ (aDnS key f A par p).1 ss ∧ sx A (aDnS key f A par p).1 ∧ LF (aDnS key f A par p).1 (aDnS key f A par p).2 key ∧ (gC (aDnS key f A par p).1 (aDnS key f A par p).2).2.1.length < 4
  | 0, _, _, _, _, _, _, _, _, _, _, _, _, _, h => by omega
  | f + 1, A, par, p, lo, hi, lv, up, hJ, hg, hp, hpos, h1, h2, hlv => by
    obtain ⟨k1, k2, k3, k4, k5, lo', hi', lv', up', k6, k7, k8, k9⟩ := step_ok (key := key) hJ hg hp hpos h1 h2
    have hpar : par < gM A := by
      rcases hpos with z | z
      · have := gM_pos A
        omega
      · exact z.2.1
    have h40 := gM_le hJ.1.1.1
    have x40 := gM_le k2.1.1.1
    have hD : aDnS key (f + 1) A par p = if (gC (aStep key A par p).1 (aStep key A par p).2).1 = true then aDnS key f (aStep key A par p).1 (aStep key A par p).2 (cChild key (gC (aStep key A par p).1 (aStep key A par p).2)) else aStep key A par p := rfl
    have hR : rokS key (f + 1) A par p = (rG A ∧ p < gM A ∧ par < gM A ∧ ((gC A p).2.1.length = 4 → okSp (aFix A p) par p) ∧ ((gC (aStep key A par p).1 (aStep key A par p).2).1 = true → rokS key f (aStep key A par p).1 (aStep key A par p).2 (cChild key (gC (aStep key A par p).1 (aStep key A par p).2)))) := rfl
    have hO : okS key (f + 1) A par p = (p < 40 ∧ par < 40 ∧ ((gC (aFix A p) p).2.1.length = 4 → okSp (aFix A p) par p) ∧ wA (aStep key A par p).1 ∧ (aStep key A par p).2 < 40 ∧ ((gC (aStep key A par p).1 (aStep key A par p).2).1 = true → okS key f (aStep key A par p).1 (aStep key A par p).2 (cChild key (gC (aStep key A par p).1 (aStep key A par p).2)))) := rfl
    rw [hD, hR, hO, gC_fix]
    generalize aStep key A par p = x at *
    by_cases hb : (gC x.1 x.2).1 = true
    · rw [if_pos hb]
      obtain ⟨c1, c2, c3, c4⟩ := tre_child k6 k4 hb k7 k8
      have hps : pos x.1 x.2 (cChild key (gC x.1 x.2)) := Or.inr ⟨c2.2.1, k4, hb, c1, k5⟩
      have hcl : lv' (cChild key (gC x.1 x.2)) < f := by
        have := c2.2.2.1
        omega
      obtain ⟨z1, z2, z3, z4, z5, z6⟩ := dn_ok f x.1 x.2 (cChild key (gC x.1 x.2)) lo' hi' lv' up' k2 k6 c2.1 hps c3 c4 hcl
      exact ⟨⟨hJ.1, hp, hpar, k1, fun _ => z1⟩, ⟨by omega, by omega, k1, k2.1.1.1, by omega, fun _ => z2⟩, z3, k3.tr z4, z5, z6⟩
    · rw [if_neg hb]
      exact ⟨⟨hJ.1, hp, hpar, k1, fun z => absurd z hb⟩, ⟨by omega, by omega, k1, k2.1.1.1, by omega, fun z => absurd z hb⟩, k2, k3, ⟨k4, cb hb, lo', hi', lv', up', k6, k7, k8⟩, k5⟩
-- the way down without splits
theorem down_gt {key : Nat} : ∀ (f : Nat) (A : aSt) (p : Nat), GT A → GT (aDownL key f A p).1
  | 0, A, p, h => h
  | f + 1, A, p, h => by
    unfold aDownL
    split
    · exact down_gt f _ _ (GT_fix h)
    · exact h
theorem down_lf {key : Nat} {lo hi lv up : Nat → Nat} : ∀ (f : Nat) (A : aSt) (p : Nat), gho A lo hi lv up → p < gM A → lo p ≤ key → key < hi p → lv p ≤ f → (gC (aDownL key f A p).1 (aDownL key f A p).2).1 = false ∧ lo (aDownL key f A p).2 ≤ key ∧ key < hi (aDownL key f A p).2 ∧ (aDownL key f A p).2 < gM A
  | 0, A, p, hg, hp, h1, h2, hl => by
    refine ⟨?_, h1, h2, hp⟩
    cases hb : (gC A p).1 with
    | false => exact hb
    | true =>
      have := (tre_child hg hp hb h1 h2).2.1.2.2.1
      omega
  | f + 1, A, p, hg, hp, h1, h2, hl => by
    unfold aDownL
    by_cases hb : (gC A p).1 = true
    · rw [if_pos hb]
      obtain ⟨c1, c2, c3, c4⟩ := tre_child hg hp hb h1 h2
      have := c2.2.2.1
      obtain ⟨z1, z2, z3, z4⟩ := down_lf f (aFix A (cChild key (gC A p))) (cChild key (gC A p)) (gho_fix hg) (by rw [gM_fix]; exact c2.1) c3 c4 (by omega)
      rw [gM_fix] at z4
      exact ⟨z1, z2, z3, z4⟩
    · rw [if_neg hb]
      exact ⟨cb hb, h1, h2, hp⟩
theorem down_ok {A : aSt} {ss k : Nat} (hJ : JJ A ss) (hk : k < 40) : LF (aDown A k).1 (aDown A k).2 k ∧ JJ (aDown A k).1 ss ∧ sx A (aDown A k).1 ∧ gL (aDown A k).1 = gL A ∧ gN (aDown A k).1 = gN A ∧ gM (aDown A k).1 = gM A := by
  obtain ⟨lo, hi, lv, up, hg⟩ := hJ.gho
  obtain ⟨r1, r2, r3, r4, r5⟩ := aDown_k (key := k) hJ.1
  have hM := gM_pos A
  have hl0 : lo 0 = 0 := hg.1
  have hh0 : hi 0 = 40 := hg.2.1
  have hlv := tre_le hg (p := 0) (by omega)
  have z : (gC (aDown A k).1 (aDown A k).2).1 = false ∧ lo (aDown A k).2 ≤ k ∧ k < hi (aDown A k).2 ∧ (aDown A k).2 < gM (aFix A 0) := down_lf 39 (aFix A 0) 0 (gho_fix hg) (by rw [gM_fix]; omega) (by omega) (by omega) (by omega)
  have hgt : GT (aDown A k).1 := down_gt 39 (aFix A 0) 0 (GT_fix hJ.2.1)
  have hMe : gM (aDown A k).1 = gM A := by
    unfold gM
    rw [r4, r5]
  obtain ⟨z1, z2, z3, -⟩ := z
  exact ⟨⟨by rw [hMe]; exact r2, z1, lo, hi, lv, up, gho_same hg r4 r5, z2, z3⟩, JJ_same hJ r4 r5 r1 hgt, sx_same r4 r5, r4, r5, hMe⟩
-- a leaf's entries
theorem LF.w {A : aSt} {p k : Nat} (h : LF A p k) : srt (gC A p).2.1 ∧ (k ∈ (gC A p).2.1 ↔ pres (gL A) k (gN A) = true) := by
  obtain ⟨h1, h2, lo, hi, lv, up, h3, h4, h5⟩ := h
  obtain ⟨q1, q2⟩ := ((h3.2.2.1 p h1).2.2.2.1 h2).2
  refine ⟨q1, ?_⟩
  rw [q2 k]
  exact ⟨fun z => z.2.2, fun z => ⟨h4, h5, z⟩⟩
theorem put_ok {A : aSt} {ss k : Nat} (hJ : JJ A ss) (hk : k < 40) : rokP A k ∧ okP A k ∧ JJ (aPutP A k).1 ss ∧ sx A (aPutP A k).1 ∧ LF (aPutP A k).1 (aPutP A k).2 k ∧ ((gC (aPutP A k).1 (aPutP A k).2).2.1[lpos k (gC (aPutP A k).1 (aPutP A k).2).2.1]? = some k ∨ (gC (aPutP A k).1 (aPutP A k).2).2.1.length < 4) := by
  obtain ⟨d1, d2, d3, d4, d5, d6⟩ := down_ok hJ hk
  have e : aPutP A k = if k ∈ (gC (aDown A k).1 (aDown A k).2).2.1 then aDown A k else aDnS k 40 (aDown A k).1 0 0 := rfl
  obtain ⟨lo, hi, lv, up, hg⟩ := d2.gho
  have hM := gM_pos (aDown A k).1
  have hl0 : lo 0 = 0 := hg.1
  have hh0 : hi 0 = 40 := hg.2.1
  have hlv := tre_le hg (p := 0) (by omega)
  obtain ⟨z1, z2, z3, z4, z5, z6⟩ := dn_ok (key := k) 40 (aDown A k).1 0 0 lo hi lv up d2 hg (by omega) (Or.inl ⟨rfl, rfl⟩) (by omega) (by omega) (by omega)
  have main : JJ (aPutP A k).1 ss ∧ sx A (aPutP A k).1 ∧ LF (aPutP A k).1 (aPutP A k).2 k ∧ ((gC (aPutP A k).1 (aPutP A k).2).2.1[lpos k (gC (aPutP A k).1 (aPutP A k).2).2.1]? = some k ∨ (gC (aPutP A k).1 (aPutP A k).2).2.1.length < 4) := by
    rw [e]
    split
    · rename_i hm
      exact ⟨d2, d3, d1, Or.inl (srt_at d1.w.1 hm)⟩
    · exact ⟨z3, d3.tr z4, z5, Or.inr z6⟩
  obtain ⟨m1, m2, m3, m4⟩ := main
  have hn := m1.n
  have h40 := gM_le m1.1.1.1
  have hlt := m3.1
  exact ⟨⟨d1.2.1, fun _ => z1, by omega⟩, ⟨d1.2.1, fun _ => z2, m1.1.1.1, by omega, m3.2.1, m4, by omega, m2.2.2.2.2.2.2.2.2.1⟩, m1, m2, m3, m4⟩
