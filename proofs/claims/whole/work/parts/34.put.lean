/-! The way down with splits, and putting a value, in the class. -/
def lkS (S : zS) (d : Nat) (A : aSt) : Prop := ∃ sl, sl ≤ gN A ∧ lkC S d sl A
theorem wA.n {A : aSt} (h : wA A) : gN A ≤ 1144 := by
  obtain ⟨lg, n, fo, im, dm, bk, pl, r, w, e, q⟩ := A
  exact h.1
def cSep (c : aCon) : Nat := (cMid c).toNatClampNeg
-- the split of a full page, and the half that has the key
def aSplit (key : Nat) (A : aSt) (par p : Nat) : aSt × Nat := if p = 0 then (aSpR A, if cMid (gC A 0) ≤ nI key then gM A + 1 else gM A) else (aSpB A par p (cSep (gC A p)), if cMid (gC A p) ≤ nI key then gM A else p)
def okSp (A : aSt) (par p : Nat) : Prop := gN A + 3 ≤ 1144 ∧ (p = 0 → gM A + 2 ≤ 40) ∧ (p ≠ 0 → gM A + 1 ≤ 40 ∧ p < gM A ∧ par < gM A ∧ p ≠ par ∧ cSep (gC A p) < 64 ∧ cMid (gC A p) = nI (cSep (gC A p)) ∧ (gC A par).1 = true ∧ p ∈ (gC A par).2.1 ∧ (gC A par).2.1.length < 4)
-- a page on the way: fixed, split if it is full, its half fixed
def aStep (key : Nat) (A : aSt) (par p : Nat) : aSt × Nat := if (gC (aFix A p) p).2.1.length = 4 then (aFix (aSplit key (aFix A p) par p).1 (aSplit key (aFix A p) par p).2, (aSplit key (aFix A p) par p).2) else (aFix A p, p)
def aDnS (key : Nat) : Nat → aSt → Nat → Nat → aSt × Nat
  | 0, A, _, p => (A, p)
  | f + 1, A, par, p => if (gC (aStep key A par p).1 (aStep key A par p).2).1 = true then aDnS key f (aStep key A par p).1 (aStep key A par p).2 (cChild key (gC (aStep key A par p).1 (aStep key A par p).2)) else aStep key A par p
def okS (key : Nat) : Nat → aSt → Nat → Nat → Prop
  | 0, _, _, _ => True
  | f + 1, A, par, p => p < 40 ∧ par < 40 ∧ ((gC (aFix A p) p).2.1.length = 4 → okSp (aFix A p) par p) ∧ wA (aStep key A par p).1 ∧ (aStep key A par p).2 < 40 ∧ ((gC (aStep key A par p).1 (aStep key A par p).2).1 = true → okS key f (aStep key A par p).1 (aStep key A par p).2 (cChild key (gC (aStep key A par p).1 (aStep key A par p).2)))
theorem log_spR {A : aSt} : gN (aSpR A) = gN A + 3 := by
  unfold aSpR aSp2 aSp1
  rw [log_add.2, log_fix.2, log_add.2, log_fixN.2, log_add.2, log_fixN.2]
theorem log_spB {A : aSt} {par f s : Nat} : gN (aSpB A par f s) = gN A + 3 := by
  unfold aSpB aSb2 aSb1
  rw [log_add.2, log_fix.2, log_add.2, log_fix.2, log_add.2, log_fixN.2]
theorem wA_split {key par p : Nat} {A : aSt} (hw : wA A) (h4 : (gC A p).2.1.length = 4) (ho : okSp A par p) : wA (aSplit key A par p).1 ∧ (aSplit key A par p).2 < 40 := by
  obtain ⟨o1, o2, o3⟩ := ho
  have hwc := hw.con p
  have n0 : gN A < 1144 := by omega
  have n1 : gN A + 1 < 1144 := by omega
  have n2 : gN A + 2 < 1144 := by omega
  have nL : gN A + 3 < 2000 := by omega
  unfold aSplit
  by_cases hp : p = 0
  · rw [if_pos hp]
    subst hp
    have hM := o2 rfl
    have m0 : gM A < 40 := by omega
    have m1 : gM A + 1 < 40 := by omega
    have hin : ∀ h ∈ [gM A, gM A + 1], h < 64 := by
      intro h hh
      simp only [List.mem_cons, List.not_mem_nil, or_false] at hh
      omega
    have hw1 : wA (aSp1 A) := wA_add (wA_fixN (p := gM A) hw m0) (okr_fmt m0 nL (half_w hwc h4 (Or.inl rfl)).1 (half_w hwc h4 (Or.inl rfl)).2) (by rw [log_fixN.2]; exact n0)
    have hN1 : gN (aSp1 A) = gN A + 1 := log_add.2.trans (by rw [log_fixN.2])
    have hw2 : wA (aSp2 A) := wA_add (wA_fixN (p := gM A + 1) hw1 m1) (okr_fmt m1 nL (half_w hwc h4 (Or.inr rfl)).1 (half_w hwc h4 (Or.inr rfl)).2) (by rw [log_fixN.2, hN1]; exact n1)
    have hN2 : gN (aSp2 A) = gN A + 2 := log_add.2.trans (by rw [log_fixN.2, hN1])
    refine ⟨wA_add (wA_fix (p := 0) hw2 (by decide)) (okr_fmt (by decide) nL (wcon_two (hin _ (by simp)) (hin _ (by simp))) len_two) (by rw [log_fix.2, hN2]; exact n2), ?_⟩
    show (if cMid (gC A 0) ≤ nI key then gM A + 1 else gM A) < 40
    split
    · exact m1
    · exact m0
  · rw [if_neg hp]
    obtain ⟨p1, p2, p3, p4, p5, p6, p7, p8, p9⟩ := o3 hp
    have m0 : gM A < 40 := p1
    have q0 : p < 40 := by omega
    have q1 : par < 40 := by omega
    have q2 : p ≠ gM A := by omega
    have q3 : par ≠ gM A := by omega
    have q4 : gM A < 64 := by omega
    have hw1 : wA (aSb1 A p) := wA_add (wA_fixN (p := gM A) hw m0) (okr_fmt m0 nL (half_w hwc h4 (Or.inr rfl)).1 (half_w hwc h4 (Or.inr rfl)).2) (by rw [log_fixN.2]; exact n0)
    have hN1 : gN (aSb1 A p) = gN A + 1 := log_add.2.trans (by rw [log_fixN.2])
    have hC1 : ∀ x, x ≠ gM A → gC (aSb1 A p) x = gC A x := fun x hx => by
      unfold aSb1
      rw [gC_add_ne (x := aFmt (gM A) (gN A + 3) (cHalf (gC A p) 2)) (p := x) (Ne.symm hx), gC_fixN]
    have hw2 : wA (aSb2 A p) := wA_add (wA_fix (p := p) hw1 q0) (okr_cut q0 nL (by rw [gC_fix, hC1 p q2]; exact h4)) (by rw [log_fix.2, hN1]; exact n1)
    have hN2 : gN (aSb2 A p) = gN A + 2 := log_add.2.trans (by rw [log_fix.2, hN1])
    have hC2 : gC (aSb2 A p) par = gC A par := by
      unfold aSb2
      rw [gC_add_ne (x := aCutR p (gN A + 3)) (p := par) p4, gC_fix, hC1 par q3]
    refine ⟨wA_add (wA_fix (p := par) hw2 q1) (okr_lnk q1 nL p5 (by rw [gC_fix, hC2]; exact p7) (by rw [gC_fix, hC2]; exact p8) (by rw [gC_fix, hC2]; exact p9) q4) (by rw [log_fix.2, hN2]; exact n2), ?_⟩
    show (if cMid (gC A p) ≤ nI key then gM A else p) < 40
    split
    · exact m0
    · exact q0
theorem zlt {a b : Nat} (h : a ≤ b) (hb : b < 1000000) : a < 2 ^ 31 := by omega
-- behind a split
theorem c29S {S0 S2 : zS} {d2 f key par p x : Nat} {B : aSt} {C : aSt × Nat} {n3 : Nat} (hn3 : gN B = n3) (hl2 : lkC S2 d2 n3 B) (hw : wA B) (hx : x < 40) (hz2 : zkp S0 S2)
    (aft : ∀ (S3 : zS), lkS S3 d2 (aFix B x) → zkp S0 S3 → zwp 29 (60, [some (.inr (some (0, 0))), some (.inl (nI key)), some (.inl (nI par)), some (.inl (nI x)), some (.inl (nI f))], [], (S3, d2)) (fun o t => ∃ S' d', o = .inl (some (.inl (nI C.2))) ∧ t = (S', d') ∧ lkS S' d' C.1 ∧ zkp S0 S')) :
    zwp 29 (54, [some (.inr (some (0, 0))), some (.inl (nI key)), some (.inl (nI par)), some (.inl (nI p)), some (.inl (nI f))], [.inl (nI x)], (S2, d2)) (fun o t => ∃ S' d', o = .inl (some (.inl (nI C.2))) ∧ t = (S', d') ∧ lkS S' d' C.1 ∧ zkp S0 S') := by
  refine w29_54 (zwp_mono (c33 hl2 hw hx) (fun o t h => ?_))
  obtain ⟨S3, rfl, rfl, kk3, z3⟩ := h
  exact aft S3 ⟨n3, by rw [log_fix.2, hn3]; exact Nat.le_refl _, kk3⟩ (hz2.tr z3)
