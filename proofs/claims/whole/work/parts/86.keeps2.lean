/-! What the model keeps, at splits and changes. -/
def kidM (A : aSt) : Prop := ∀ p, (gC A p).1 = true → ∀ h ∈ (gC A p).2.1, h < gM A
def fmb (A : aSt) : Prop := 2 * fmts (gL A) (gN A) + 3 ≤ 3 * gM A
def rG (A : aSt) : Prop := wM A ∧ wln A ∧ frs A ∧ kidM A ∧ fmb A
def rS (A : aSt) (L : Nat) : Prop := wM A ∧ inS A L ∧ frs A
theorem gM_le {A : aSt} (h : wA A) : gM A ≤ 40 := by
  obtain ⟨lg, n, fo, im, dm, bk, pl, r, w, e, q⟩ := A
  exact pgs_le h.2.2.1
theorem kidM.k {A : aSt} (h : kidM A) (hw : wA A) : kids A := fun p hb x hx => Nat.lt_of_lt_of_le (h p hb x hx) (gM_le hw)
theorem fmts_fix {A : aSt} {p : Nat} : fmts (gL (aFix A p)) (gN (aFix A p)) = fmts (gL A) (gN A) := by rw [log_fix.1, log_fix.2]
theorem fmts_fixN {A : aSt} {p : Nat} : fmts (gL (aFixN A p)) (gN (aFixN A p)) = fmts (gL A) (gN A) := by rw [log_fixN.1, log_fixN.2]
theorem fmts_add {A : aSt} {x : aRec} : fmts (gL (aAdd A x)) (gN (aAdd A x)) = fmts (gL A) (gN A) + (if rK x = 3 then 1 else 0) := by
  rw [log_add.1, log_add.2, fmts, upL_self, fmts_congr (lg := gL A) (fun i z1 z2 => up_pre z2)]
  split <;> rfl
theorem rG_fix {A : aSt} {q : Nat} (h : rG A) (hq : q < gM A) : rG (aFix A q) :=
  ⟨wM_fix h.1 (Nat.lt_of_lt_of_le hq (gM_le h.1.1)), wln_fix h.2.1, frs_fix h.2.2.1 hq, fun p hb x hx => by
    rw [gC_fix] at hb hx
    rw [gM_fix]
    exact h.2.2.2.1 p hb x hx, by
    unfold fmb
    rw [fmts_fix, gM_fix]
    exact h.2.2.2.2⟩
theorem rG.s {A : aSt} (h : rG A) (L : Nat) : rS A L := ⟨h.1, h.2.1.s L, h.2.2.1⟩
theorem rG.fm {A : aSt} (h : rG A) : fmts (gL A) (gN A) ≤ 58 := by
  have h1 := gM_le h.1.1
  have h2 := h.2.2.2.2
  unfold fmb at h2
  omega
theorem gC_add' {A : aSt} {x : aRec} {q : Nat} (hK : rK x < 6) (hP : rP x = q) : ∀ y, gC (aAdd A x) y = if y = q then app x (gC A q) else gC A y := by
  intro y
  by_cases e : y = q
  · rw [if_pos e, e, ← hP]
    exact gC_add hK
  · rw [if_neg e]
    exact gC_add_ne (fun z => e (by rw [← hP, z]))
-- a new page is formatted
theorem stN {A : aSt} {c : aCon} {L : Nat} (h : rS A L) (hm : gM A < 40) (hn : gN A < 1144) (hL1 : gN A + 1 ≤ L) (hL : L < 2000) (hc : wcon c) (h2 : c.2.1.length = 2) :
    rS (aAdd (aFixN A (gM A)) (aFmt (gM A) L c)) L ∧ gN (aAdd (aFixN A (gM A)) (aFmt (gM A) L c)) = gN A + 1 ∧ gM (aAdd (aFixN A (gM A)) (aFmt (gM A) L c)) = gM A + 1 ∧ fmts (gL (aAdd (aFixN A (gM A)) (aFmt (gM A) L c))) (gN (aAdd (aFixN A (gM A)) (aFmt (gM A) L c))) = fmts (gL A) (gN A) + 1 ∧ ∀ y, gC (aAdd (aFixN A (gM A)) (aFmt (gM A) L c)) y = if y = gM A then c else gC A y := by
  obtain ⟨hw, hi, hf⟩ := h
  have hwB := wM_fixN (p := gM A) hw hm
  have hiB := inS_fixN (p := gM A) hi
  have hN : gN (aFixN A (gM A)) = gN A := log_fixN.2
  have hMM : gM (aFixN A (gM A)) = gM A := gM_fixN
  have hF := @fmts_fixN A (gM A)
  have hC := @gC_fixN A (gM A)
  have hfr2 := frs_new (x := aFmt (gM A) L c) hf (by show 3 < 6; decide) rfl
  have hx : okr (aFixN A (gM A)) (aFmt (gM A) L c) := okr_fmt hm hL hc h2
  have h6 : rK (aFmt (gM A) L c) < 6 := by show 3 < 6; decide
  generalize gM A = M at *
  generalize aFixN A M = B at *
  refine ⟨⟨wM_add hwB hiB hx rfl (by omega) (by omega) (fun z => absurd z (by show ¬ 3 = 2; decide)), inS_add hiB rfl, hfr2⟩, ?_, ?_, ?_, fun y => ?_⟩
  · rw [log_add.2, hN]
  · rw [gM_add h6, hMM]
    exact Nat.max_eq_right (Nat.le_succ _)
  · rw [fmts_add, hF]
    rfl
  · rw [gC_add' (q := M) h6 rfl y, hC, hC]
    rfl
-- a record of a page that is there
theorem stA {A : aSt} {x : aRec} {q L : Nat} (h : rS A L) (hq : q < gM A) (hn : gN A < 1144) (hL1 : gN A + 1 ≤ L) (hx : okr (aFix A q) x) (h6 : rK x < 6) (hK : rK x ≠ 2) (hP : rP x = q) (hL : rL x = L) :
    rS (aAdd (aFix A q) x) L ∧ gN (aAdd (aFix A q) x) = gN A + 1 ∧ gM (aAdd (aFix A q) x) = gM A ∧ fmts (gL (aAdd (aFix A q) x)) (gN (aAdd (aFix A q) x)) = fmts (gL A) (gN A) + (if rK x = 3 then 1 else 0) ∧ ∀ y, gC (aAdd (aFix A q) x) y = if y = q then app x (gC A q) else gC A y := by
  obtain ⟨hw, hi, hf⟩ := h
  have h40 := gM_le hw.1
  have hwB := wM_fix (p := q) hw (by omega)
  have hiB := inS_fix (p := q) hi
  have hfB := frs_fix hf hq
  have hN : gN (aFix A q) = gN A := log_fix.2
  have hMM : gM (aFix A q) = gM A := gM_fix
  have hF := @fmts_fix A q
  have hC := @gC_fix A q
  generalize aFix A q = B at *
  refine ⟨⟨wM_add hwB hiB hx hL (by omega) (by omega) (fun z => absurd z hK), inS_add hiB hL, frs_add hfB⟩, ?_, ?_, ?_, fun y => ?_⟩
  · rw [log_add.2, hN]
  · rw [gM_add h6, hMM, hP]
    exact Nat.max_eq_left hq
  · rw [fmts_add, hF]
  · rw [gC_add' h6 hP y, hC, hC]
theorem rS.end_ {A : aSt} {L : Nat} (h : rS A L) (hN : gN A = L) : wln A := by
  obtain ⟨-, hi, -⟩ := h
  refine ⟨fun k h1 h2 => ?_, ?_⟩
  · rcases hi.1 k h1 h2 with z | z <;> omega
  · rcases hi.2 with z | z <;> omega
theorem half_sub {c : aCon} {a : Nat} : ∀ h ∈ (cHalf c a).2.1, h ∈ c.2.1 := fun h hh => List.mem_of_mem_drop (List.mem_of_mem_take hh)
-- the root's split
theorem spR_k {A : aSt} (h : rG A) (h4 : (gC A 0).2.1.length = 4) (hm : gM A + 2 ≤ 40) (hn : gN A + 3 ≤ 1144) : rG (aSpR A) ∧ gM (aSpR A) = gM A + 2 ∧ gN (aSpR A) = gN A + 3 ∧ ∀ x, gC (aSpR A) x = if x = 0 then (true, [gM A, gM A + 1], [cMid (gC A 0)]) else if x = gM A then cHalf (gC A 0) 0 else if x = gM A + 1 then cHalf (gC A 0) 2 else gC A x := by
  have hwc := h.1.1.con 0
  have hp1 := gM_pos A
  have hkm := h.2.2.2.1
  have hfm : 2 * fmts (gL A) (gN A) + 3 ≤ 3 * gM A := h.2.2.2.2
  have e3 : aSpR A = aAdd (aFix (aSp2 A) 0) (aFmt 0 (gN A + 3) (true, [gM A, gM A + 1], [cMid (gC A 0)])) := rfl
  have e2 : aSp2 A = aAdd (aFixN (aSp1 A) (gM A + 1)) (aFmt (gM A + 1) (gN A + 3) (cHalf (gC A 0) 2)) := rfl
  have e1 : aSp1 A = aAdd (aFixN A (gM A)) (aFmt (gM A) (gN A + 3) (cHalf (gC A 0) 0)) := rfl
  obtain ⟨s1, n1, m1, f1, c1⟩ := stN (c := cHalf (gC A 0) 0) (h.s (gN A + 3)) (by omega) (by omega) (by omega) (by omega) (half_w hwc h4 (Or.inl rfl)).1 (half_w hwc h4 (Or.inl rfl)).2
  rw [← e1] at s1 n1 m1 f1 c1
  rw [e3, e2]
  generalize aSp1 A = A1 at *
  rw [← m1]
  obtain ⟨s2, n2, m2, f2, c2⟩ := stN (c := cHalf (gC A 0) 2) s1 (by omega) (by omega) (by omega) (by omega) (half_w hwc h4 (Or.inr rfl)).1 (half_w hwc h4 (Or.inr rfl)).2
  generalize aAdd (aFixN A1 (gM A1)) (aFmt (gM A1) (gN A + 3) (cHalf (gC A 0) 2)) = A2 at *
  have hin : ∀ h ∈ [gM A, gM A1], h < 64 := by
    intro h hh
    simp only [List.mem_cons, List.not_mem_nil, or_false] at hh
    omega
  have hx : okr (aFix A2 0) (aFmt 0 (gN A + 3) (true, [gM A, gM A1], [cMid (gC A 0)])) := okr_fmt (by decide) (by omega) (wcon_two (hin _ (by simp)) (hin _ (by simp))) len_two
  obtain ⟨s3, n3, m3, f3, c3⟩ := stA s2 (q := 0) (by omega) (by omega) (by omega) hx (by show 3 < 6; decide) (by show ¬ 3 = 2; decide) rfl rfl
  rw [if_pos (show rK (aFmt 0 (gN A + 3) (true, [gM A, gM A1], [cMid (gC A 0)])) = 3 from rfl)] at f3
  generalize aAdd (aFix A2 0) (aFmt 0 (gN A + 3) (true, [gM A, gM A1], [cMid (gC A 0)])) = A3 at *
  have hcon : ∀ x, gC A3 x = if x = 0 then (true, [gM A, gM A1], [cMid (gC A 0)]) else if x = gM A then cHalf (gC A 0) 0 else if x = gM A1 then cHalf (gC A 0) 2 else gC A x := by
    intro x
    rw [c3 x]
    by_cases e0 : x = 0
    · rw [if_pos e0, if_pos e0]
      rfl
    · rw [if_neg e0, if_neg e0, c2 x]
      by_cases ea : x = gM A
      · rw [if_pos ea, if_neg (by omega), c1 x, if_pos ea]
      · rw [if_neg ea]
        by_cases eb : x = gM A1
        · rw [if_pos eb, if_pos eb]
        · rw [if_neg eb, if_neg eb, c1 x, if_neg ea]
  refine ⟨⟨s3.1, s3.end_ (by omega), s3.2.2, fun p hb x hx => ?_, ?_⟩, by omega, by omega, hcon⟩
  · rw [hcon p] at hb hx
    by_cases e0 : p = 0
    · rw [if_pos e0] at hx
      have hx : x ∈ [gM A, gM A1] := hx
      simp only [List.mem_cons, List.not_mem_nil, or_false] at hx
      omega
    · rw [if_neg e0] at hb hx
      by_cases ea : p = gM A
      · rw [if_pos ea] at hb hx
        have := hkm 0 hb x (half_sub x hx)
        omega
      · rw [if_neg ea] at hb hx
        by_cases eb : p = gM A1
        · rw [if_pos eb] at hb hx
          have := hkm 0 hb x (half_sub x hx)
          omega
        · rw [if_neg eb] at hb hx
          have := hkm p hb x hx
          omega
  · unfold fmb
    omega
theorem link_sub {s ch be : Nat} {c : aCon} : ∀ h ∈ (cLink s ch be c).2.1, h = ch ∨ h ∈ c.2.1 := by
  intro h hh
  have hh : h ∈ lins (lidx be c.2.1 + 1) ch c.2.1 := hh
  unfold lins at hh
  rcases List.mem_append.mp hh with z | z
  · exact Or.inr (List.mem_of_mem_take z)
  · rcases List.mem_cons.mp z with z | z
    · exact Or.inl z
    · exact Or.inr (List.mem_of_mem_drop z)
-- a split below
theorem spB_k {A : aSt} {par p s : Nat} (h : rG A) (h4 : (gC A p).2.1.length = 4) (hn : gN A + 3 ≤ 1144) (p1 : gM A + 1 ≤ 40) (p2 : p < gM A) (p3 : par < gM A) (p4 : p ≠ par) (p5 : s < 64) (p7 : (gC A par).1 = true) (p8 : p ∈ (gC A par).2.1) (p9 : (gC A par).2.1.length < 4) :
    rG (aSpB A par p s) ∧ gM (aSpB A par p s) = gM A + 1 ∧ gN (aSpB A par p s) = gN A + 3 ∧ ∀ x, gC (aSpB A par p s) x = if x = par then cLink s (gM A) p (gC A par) else if x = p then cCut (gC A p) else if x = gM A then cHalf (gC A p) 2 else gC A x := by
  have hwc := h.1.1.con p
  have hkm := h.2.2.2.1
  have hfm : 2 * fmts (gL A) (gN A) + 3 ≤ 3 * gM A := h.2.2.2.2
  have e3 : aSpB A par p s = aAdd (aFix (aSb2 A p) par) (aLnk par (gN A + 3) s (gM A) p) := rfl
  have e2 : aSb2 A p = aAdd (aFix (aSb1 A p) p) (aCutR p (gN A + 3)) := rfl
  have e1 : aSb1 A p = aAdd (aFixN A (gM A)) (aFmt (gM A) (gN A + 3) (cHalf (gC A p) 2)) := rfl
  obtain ⟨s1, n1, m1, f1, c1⟩ := stN (c := cHalf (gC A p) 2) (h.s (gN A + 3)) (by omega) (by omega) (by omega) (by omega) (half_w hwc h4 (Or.inr rfl)).1 (half_w hwc h4 (Or.inr rfl)).2
  rw [← e1] at s1 n1 m1 f1 c1
  rw [e3, e2]
  generalize aSb1 A p = A1 at *
  have hcp : gC A1 p = gC A p := by rw [c1 p, if_neg (by omega)]
  have hx2 : okr (aFix A1 p) (aCutR p (gN A + 3)) := okr_cut (by omega) (by omega) (by rw [gC_fix, hcp]; exact h4)
  obtain ⟨s2, n2, m2, f2, c2⟩ := stA s1 (q := p) (by omega) (by omega) (by omega) hx2 (by show 4 < 6; decide) (by show ¬ 4 = 2; decide) rfl rfl
  rw [if_neg (show ¬ rK (aCutR p (gN A + 3)) = 3 by show ¬ 4 = 3; decide)] at f2
  generalize aAdd (aFix A1 p) (aCutR p (gN A + 3)) = A2 at *
  have hcr : gC A2 par = gC A par := by rw [c2 par, if_neg (Ne.symm p4), c1 par, if_neg (by omega)]
  have hx3 : okr (aFix A2 par) (aLnk par (gN A + 3) s (gM A) p) := okr_lnk (by omega) (by omega) p5 (by rw [gC_fix, hcr]; exact p7) (by rw [gC_fix, hcr]; exact p8) (by rw [gC_fix, hcr]; exact p9) (by omega)
  obtain ⟨s3, n3, m3, f3, c3⟩ := stA s2 (q := par) (by omega) (by omega) (by omega) hx3 (by show 5 < 6; decide) (by show ¬ 5 = 2; decide) rfl rfl
  rw [if_neg (show ¬ rK (aLnk par (gN A + 3) s (gM A) p) = 3 by show ¬ 5 = 3; decide)] at f3
  generalize aAdd (aFix A2 par) (aLnk par (gN A + 3) s (gM A) p) = A3 at *
  have hcon : ∀ x, gC A3 x = if x = par then cLink s (gM A) p (gC A par) else if x = p then cCut (gC A p) else if x = gM A then cHalf (gC A p) 2 else gC A x := by
    intro x
    rw [c3 x, hcr]
    by_cases e0 : x = par
    · rw [if_pos e0, if_pos e0]
      rfl
    · rw [if_neg e0, if_neg e0, c2 x, hcp]
      by_cases ea : x = p
      · rw [if_pos ea, if_pos ea]
        rfl
      · rw [if_neg ea, if_neg ea, c1 x]
  refine ⟨⟨s3.1, s3.end_ (by omega), s3.2.2, fun q hb x hx => ?_, ?_⟩, by omega, by omega, hcon⟩
  · rw [hcon q] at hb hx
    by_cases e0 : q = par
    · rw [if_pos e0] at hx
      rcases link_sub x hx with z | z
      · omega
      · have := hkm par p7 x z
        omega
    · rw [if_neg e0] at hb hx
      by_cases ea : q = p
      · rw [if_pos ea] at hb hx
        have := hkm p hb x (List.mem_of_mem_take hx)
        omega
      · rw [if_neg ea] at hb hx
        by_cases eb : q = gM A
        · rw [if_pos eb] at hb hx
          have := hkm p hb x (half_sub x hx)
          omega
        · rw [if_neg eb] at hb hx
          have := hkm q hb x hx
          omega
  · unfold fmb
    omega
theorem rG_split {A : aSt} {key par p : Nat} (h : rG A) (h4 : (gC A p).2.1.length = 4) (ho : okSp A par p) : rG (aSplit key A par p).1 ∧ (aSplit key A par p).2 < gM (aSplit key A par p).1 ∧ gN (aSplit key A par p).1 = gN A + 3 := by
  obtain ⟨o1, o2, o3⟩ := ho
  unfold aSplit
  by_cases e : p = 0
  · rw [if_pos e]
    obtain ⟨r1, r2, r3, -⟩ := spR_k h (by rw [← e]; exact h4) (o2 e) o1
    refine ⟨r1, ?_, r3⟩
    show (if cMid (gC A 0) ≤ nI key then gM A + 1 else gM A) < gM (aSpR A)
    rw [r2]
    split <;> omega
  · rw [if_neg e]
    obtain ⟨p1, p2, p3, p4, p5, p6, p7, p8, p9⟩ := o3 e
    obtain ⟨r1, r2, r3, -⟩ := spB_k h h4 o1 p1 p2 p3 p4 p5 p7 p8 p9
    refine ⟨r1, ?_, r3⟩
    show (if cMid (gC A p) ≤ nI key then gM A else p) < gM (aSpB A par p (cSep (gC A p)))
    rw [r2]
    split <;> omega
-- a change, an end
theorem cEnter_b {k : Nat} {v : Int32} {c : aCon} : (cEnter k v c).1 = c.1 := by
  unfold cEnter
  split <;> rfl
theorem rG_chg {A : aSt} {x : aRec} (h : rG A) (hx : okr A x) (hK : rK x = 1 ∨ rK x = 2) (hP : rP x < gM A) (hL : rL x = gN A + 1) (hn : gN A < 1144) (hpo : rK x = 2 → (gC A (rP x)).2.1[lpos (rY x) (gC A (rP x)).2.1]? = some (rY x)) : rG (aAdd A x) ∧ gM (aAdd A x) = gM A := by
  have h6 : rK x < 6 := by omega
  have hleg := hx.2 h6
  have hM : gM (aAdd A x) = gM A := by
    rw [gM_add h6]
    exact Nat.max_eq_left hP
  have hb : (gC A (rP x)).1 = false ∧ (app x (gC A (rP x))).1 = (gC A (rP x)).1 := by
    unfold legal at hleg
    unfold app
    rcases hK with e | e
    · rw [e] at hleg ⊢
      exact ⟨hleg.1, cEnter_b⟩
    · rw [e] at hleg ⊢
      exact ⟨hleg.1, rfl⟩
  refine ⟨⟨wM_add h.1 (h.2.1.s _) hx hL (Nat.le_refl _) hn hpo, wln_add (h.2.1.s _) hL, frs_add h.2.2.1, fun p hp y hy => ?_, ?_⟩, hM⟩
  · rw [gC_add' h6 rfl p] at hp hy
    rw [hM]
    by_cases e : p = rP x
    · rw [if_pos e, hb.2, hb.1] at hp
      cases hp
    · rw [if_neg e] at hp hy
      exact h.2.2.2.1 p hp y hy
  · unfold fmb
    rw [fmts_add, hM, if_neg (by omega)]
    exact h.2.2.2.2
theorem gC_addE {A : aSt} {x : aRec} (h : ¬ rK x < 6) (p : Nat) : gC (aAdd A x) p = gC A p := by
  unfold gC
  rw [log_add.1, log_add.2, con, upL_self, isPg_k h, if_neg (by decide)]
  exact con_congr (fun i z1 z2 => up_pre z2)
theorem rG_end {A : aSt} {K s : Nat} (h : rG A) (hK : K = 6 ∨ K = 7) (hs : s < 2000) (hn : gN A < 1144) : rG (aEnd A K s) := by
  have h6 : ¬ K < 6 := by omega
  have hx : okr A (K, 0, s, 0, gN A + 1, 0, 0, false, 0, (false, [], [])) := by
    refine ⟨⟨by show K < 8; omega, fun z => absurd z h6, hs, by show 0 < gN A + 1; omega, by show gN A + 1 < 2000; omega, by show 0 < 64; decide, fun _ => rfl⟩, fun z => absurd z h6⟩
  have hM : gM (aEnd A K s) = gM A := gM_addE h6
  refine ⟨wM_add h.1 (h.2.1.s _) hx rfl (Nat.le_refl _) hn (fun z => ?_), wln_add (h.2.1.s _) rfl, frs_add h.2.2.1, fun p hp y hy => ?_, ?_⟩
  · have z : K = 2 := z
    omega
  · have hc : gC (aEnd A K s) p = gC A p := gC_addE (A := A) (x := (K, 0, s, 0, gN A + 1, 0, 0, false, 0, (false, [], []))) h6 p
    rw [hc] at hp hy
    rw [hM]
    exact h.2.2.2.1 p hp y hy
  · unfold fmb
    rw [hM]
    have : fmts (gL (aEnd A K s)) (gN (aEnd A K s)) = fmts (gL A) (gN A) + (if K = 3 then 1 else 0) := fmts_add
    rw [this, if_neg (by omega)]
    exact h.2.2.2.2
-- a page that is the last of the pool
theorem touch_last {p : Nat} {l : List Nat} (h : p ∉ l) : aTouch p (l ++ [p]) = l ++ [p] := by
  have h1 : lidx p (l ++ [p]) = l.length := by
    induction l with
    | nil => simp [lidx]
    | cons a r ih =>
      rw [List.mem_cons, not_or] at h
      rw [List.cons_append, lidx, if_neg (Ne.symm h.1), ih h.2]
      rfl
  unfold aTouch aOut
  rw [if_pos (by simp), h1, List.eraseIdx_append_of_length_le (Nat.le_refl _), Nat.sub_self]
  simp
theorem fix_last {A : aSt} {p : Nat} (h : aTouch p (gP A) = gP A) (hp : p ∈ gP A) : aFix A p = A := by
  unfold aFix
  rw [if_pos hp, h]
  have : aLeave p (gP A) = none := by
    unfold aLeave
    rw [if_pos (Or.inr hp)]
  rw [this]
  obtain ⟨lg, n, fo, im, dm, bk, pl, r, w, e, q⟩ := A
  rfl
theorem gP_fix {A : aSt} {p : Nat} : gP (aFix A p) = aTouch p (gP A) := by
  unfold aFix
  split
  · generalize aWin A (aLeave p (gP A)) = B
    obtain ⟨lg, n, fo, im, dm, bk, pl, r, w, e, q⟩ := B
    rfl
  · generalize aWin A (aLeave p (gP A)) = B
    obtain ⟨lg, n, fo, im, dm, bk, pl, r, w, e, q⟩ := B
    rfl
def fixd (A : aSt) (p : Nat) : Prop := aFix A p = A
theorem fixd_fix {A : aSt} {p : Nat} (hw : wA A) : fixd (aFix A p) p := by
  have h := (aOut_w (k := p) hw.pool.1).2.2.2
  refine fix_last ?_ ?_
  · rw [gP_fix]
    exact touch_last h
  · rw [gP_fix]
    unfold aTouch
    simp
