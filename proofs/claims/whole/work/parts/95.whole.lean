/-! What the model keeps in all: images, log, tree, transactions. -/
theorem nI_nat {s : Nat} (h : s < 2 ^ 31) : (nI s).toNatClampNeg = s := by
  show (nI s).toInt.toNat = s
  rw [nI_toInt h]
  exact Int.toNat_natCast s
def TRa (A : aSt) : Prop := TR (gL A) (gN A)
def SB (A : aSt) : Prop := (∀ p, gIm A p ≤ gFo A) ∧ ∀ p x, gBk A p = some x → x ≤ gFo A ∧ x ≤ gN A ∧ (p = 0 ∨ (1 ≤ x ∧ isPg p (gL A x) = true))
theorem TRa.l {A : aSt} (h : TRa A) {k : Nat} (h1 : 1 ≤ k) (h2 : k ≤ gN A) : k ≤ rL (gL A k) := by
  have := (h (k - 1) (by omega)).2.2.2.2.1
  rw [show k - 1 + 1 = k by omega] at this
  exact this
theorem SB_win {A : aSt} {o : Option Nat} (h : SB A) (ht : TRa A) : SB (aWin A o) := by
  unfold aWin
  split
  · exact h
  · rename_i p
    split
    · obtain ⟨lg, n, fo, im, dm, bk, pl, r, w, e, q⟩ := A
      have hle := lat_le lg p n
      have hf : fo ≤ aForce lg (lat lg p n) fo := by
        unfold aForce
        split <;> omega
      have hl : lat lg p n ≤ aForce lg (lat lg p n) fo := by
        unfold aForce
        by_cases h0 : 0 < lat lg p n
        · have h1 : lat lg p n ≤ rL (lg (lat lg p n)) := ht.l (k := lat lg p n) h0 hle
          split <;> omega
        · omega
      obtain ⟨h1, h2⟩ := h
      refine ⟨fun x => ?_, fun x y hy => ?_⟩
      · show upN im p (lat lg p n) x ≤ aForce lg (lat lg p n) fo
        unfold upN
        split
        · exact hl
        · exact Nat.le_trans (h1 x) hf
      · obtain ⟨z1, z2, z3⟩ := h2 x y hy
        exact ⟨Nat.le_trans z1 hf, z2, z3⟩
    · exact h
theorem SB_fix {A : aSt} {p : Nat} (h : SB A) (ht : TRa A) : SB (aFix A p) := by
  have h1 := SB_win (o := aLeave p (gP A)) h ht
  unfold aFix
  generalize aWin A (aLeave p (gP A)) = B at h1 ⊢
  obtain ⟨lg, n, fo, im, dm, bk, pl, r, w, e, q⟩ := B
  split
  · exact h1
  · exact h1
theorem SB_fixN {A : aSt} {p : Nat} (h : SB A) (ht : TRa A) : SB (aFixN A p) := by
  have h1 := SB_win (o := aLeave p (gP A)) h ht
  unfold aFixN
  generalize aWin A (aLeave p (gP A)) = B at h1 ⊢
  obtain ⟨lg, n, fo, im, dm, bk, pl, r, w, e, q⟩ := B
  exact h1
theorem SB_add {A : aSt} {x : aRec} (h : SB A) : SB (aAdd A x) := by
  obtain ⟨lg, n, fo, im, dm, bk, pl, r, w, e, q⟩ := A
  obtain ⟨h1, h2⟩ := h
  refine ⟨h1, fun p y hy => ?_⟩
  obtain ⟨z1, z2, z3⟩ := h2 p y hy
  refine ⟨z1, Nat.le_succ_of_le z2, ?_⟩
  rcases z3 with z3 | z3
  · exact Or.inl z3
  · refine Or.inr ⟨z3.1, ?_⟩
    have z2 : y ≤ n := z2
    show isPg p (upL lg (n + 1) x y) = true
    rw [up_pre z2]
    exact z3.2
def GT (A : aSt) : Prop := SB A ∧ TRa A
theorem TRa_fix {A : aSt} {p : Nat} (h : TRa A) : TRa (aFix A p) := by
  unfold TRa
  rw [log_fix.1, log_fix.2]
  exact h
theorem TRa_fixN {A : aSt} {p : Nat} (h : TRa A) : TRa (aFixN A p) := by
  unfold TRa
  rw [log_fixN.1, log_fixN.2]
  exact h
theorem GT_fix {A : aSt} {p : Nat} (h : GT A) : GT (aFix A p) := ⟨SB_fix h.1 h.2, TRa_fix h.2⟩
theorem GT_fixN {A : aSt} {p : Nat} (h : GT A) : GT (aFixN A p) := ⟨SB_fixN h.1 h.2, TRa_fixN h.2⟩
theorem GT_add {A : aSt} {x : aRec} (h : GT A) (hx : trec (gL A) (gN A) x) : GT (aAdd A x) := ⟨SB_add h.1, TR_add h.2 hx⟩
theorem trec_s {lg : Nat → aRec} {n : Nat} {x : aRec} (h3 : 3 ≤ rK x) (h5 : rK x ≤ 5) (hW : rW x = 0) (hU : rU x = 0) (hP : rP x ≤ pgs lg n) (hL : n + 1 ≤ rL x) : trec lg n x :=
  ⟨fun z => by omega, fun _ _ => ⟨hW, hU⟩, fun z => by omega, fun _ => hP, hL, by omega, by omega⟩
-- only splits between A and B
def sx (A B : aSt) : Prop := (∀ k, pres (gL B) k (gN B) = pres (gL A) k (gN A)) ∧ (∀ s k, stk (gL B) s k (gN B) = stk (gL A) s k (gN A)) ∧ (∀ s k, hasK (gL B) s k (gN B) = hasK (gL A) s k (gN A)) ∧ (∀ s, edw (gL B) s (gN B) = edw (gL A) s (gN A)) ∧ (∀ s, 1 ≤ s → hsw (gL B) s (gN B) = hsw (gL A) s (gN A)) ∧ (∀ m, 1 ≤ m → undn (gL B) m (gN B) = undn (gL A) m (gN A)) ∧ cUc (gL B) (gN B) = cUc (gL A) (gN A) ∧ (∀ m, 1 ≤ m → m ≤ gN A → gL B m = gL A m) ∧ gN A ≤ gN B ∧ (∀ j, gN A ≤ j → j < gN B → rW (gL B (j + 1)) = 0)
theorem sx_same {A B : aSt} (h1 : gL B = gL A) (h2 : gN B = gN A) : sx A B := by
  unfold sx
  rw [h1, h2]
  exact ⟨fun _ => rfl, fun _ _ => rfl, fun _ _ => rfl, fun _ => rfl, fun _ _ => rfl, fun _ _ => rfl, rfl, fun _ _ _ => rfl, Nat.le_refl _, fun j q1 q2 => by omega⟩
theorem sx.tr {A B C : aSt} (h1 : sx A B) (h2 : sx B C) : sx A C := by
  obtain ⟨a1, a2, a3, a4, a5, a6, a7, a8, a9, a10⟩ := h1
  obtain ⟨b1, b2, b3, b4, b5, b6, b7, b8, b9, b10⟩ := h2
  refine ⟨fun k => (b1 k).trans (a1 k), fun s k => (b2 s k).trans (a2 s k), fun s k => (b3 s k).trans (a3 s k), fun s => (b4 s).trans (a4 s), fun s hs => (b5 s hs).trans (a5 s hs), fun m hm => (b6 m hm).trans (a6 m hm), b7.trans a7, fun m q1 q2 => (b8 m q1 (by omega)).trans (a8 m q1 q2), by omega, fun j q1 q2 => ?_⟩
  by_cases e : j < gN B
  · rw [b8 (j + 1) (by omega) (by omega)]
    exact a10 j q1 e
  · exact b10 j (by omega) q2
theorem sx_fix {A : aSt} {p : Nat} : sx A (aFix A p) := sx_same log_fix.1 log_fix.2
theorem sx_fixN {A : aSt} {p : Nat} : sx A (aFixN A p) := sx_same log_fixN.1 log_fixN.2
theorem cUc_congr {lg lg' : Nat → aRec} : ∀ {n : Nat}, (∀ m, 1 ≤ m → m ≤ n → lg' m = lg m) → cUc lg' n = cUc lg n
  | 0, _ => rfl
  | n + 1, h => by rw [cUc, cUc, h (n + 1) (by omega) (Nat.le_refl _), cUc_congr (fun m q1 q2 => h m q1 (by omega))]
theorem cSc_congr {lg lg' : Nat → aRec} : ∀ {n : Nat}, (∀ m, 1 ≤ m → m ≤ n → lg' m = lg m) → cSc lg' n = cSc lg n
  | 0, _ => rfl
  | n + 1, h => by rw [cSc, cSc, h (n + 1) (by omega) (Nat.le_refl _), cSc_congr (fun m q1 q2 => h m q1 (by omega))]
theorem cSc_add {A : aSt} {x : aRec} : cSc (gL (aAdd A x)) (gN (aAdd A x)) = cSc (gL A) (gN A) + (if 3 ≤ rK x ∧ rK x ≤ 5 then 1 else 0) := by
  rw [log_add.1, log_add.2, cSc, upL_self, cSc_congr (lg := gL A) (fun i z1 z2 => up_pre z2)]
theorem sx_add {A : aSt} {x : aRec} (h3 : 3 ≤ rK x) (h5 : rK x ≤ 5) (hW : rW x = 0) (hU : rU x = 0) : sx A (aAdd A x) := by
  have hu : ∀ m, 1 ≤ m → m ≤ gN A → upL (gL A) (gN A + 1) x m = gL A m := fun m _ h2 => up_pre h2
  have h1 : ¬ (rK x = 1 ∨ rK x = 2) := by omega
  unfold sx
  rw [log_add.1, log_add.2]
  refine ⟨fun k => ?_, fun s k => ?_, fun s k => ?_, fun s => ?_, fun s hs => ?_, fun m hm => ?_, ?_, hu, Nat.le_succ _, fun j q1 q2 => ?_⟩
  · rw [pres, upL_self, if_neg (fun z => h1 z.1), pres_congr hu]
  · rw [stk, upL_self, if_neg (fun z => h1 z.1), stk_congr hu]
  · rw [hasK, upL_self, decide_eq_false (fun z => h1 z.1), Bool.or_false, hasK_congr hu]
  · rw [edw, upL_self, decide_eq_false (fun z => by omega), Bool.or_false, edw_congr hu]
  · rw [hsw, upL_self, decide_eq_false (by omega), Bool.or_false, hsw_congr hu]
  · rw [undn, upL_self, decide_eq_false (by omega), Bool.false_or, undn_congr hu]
  · rw [cUc, upL_self, if_neg (fun z => h1 z.1), cUc_congr hu]
    rfl
  · have : j = gN A := by omega
    rw [this, upL_self]
    exact hW
-- the tree at whole prefixes
def Tl (lg : Nat → aRec) (m : Nat) : Prop := (∃ lo hi lv up, tre (fun p => con lg p m) (pgs lg m) (fun k => pres lg k m) lo hi lv up) ∧ cSc lg m + 3 ≤ 3 * pgs lg m ∧ 2 * fmts lg m + 3 ≤ 3 * pgs lg m
def WT (lg : Nat → aRec) (n : Nat) : Prop := ∀ m, m ≤ n → (∀ k, 1 ≤ k → k ≤ m → rL (lg k) ≤ m) → Tl lg m
theorem Tl_congr {lg lg' : Nat → aRec} {m : Nat} (h : ∀ k, 1 ≤ k → k ≤ m → lg' k = lg k) (ht : Tl lg m) : Tl lg' m := by
  obtain ⟨⟨lo, hi, lv, up, h1⟩, h2, h3⟩ := ht
  unfold Tl
  rw [pgs_congr h, cSc_congr h, fmts_congr h]
  exact ⟨⟨lo, hi, lv, up, tre_pr h1 (fun k => pres_congr h) (fun p => con_congr h)⟩, h2, h3⟩
theorem WT_grow {A B : aSt} (h : WT (gL A) (gN A)) (h1 : ∀ m, 1 ≤ m → m ≤ gN A → gL B m = gL A m) (h2 : ∀ m, gN A < m → m < gN B → ∃ k, 1 ≤ k ∧ k ≤ m ∧ m < rL (gL B k)) (h3 : Tl (gL B) (gN B)) : WT (gL B) (gN B) := by
  intro m hm hb
  by_cases e : m ≤ gN A
  · refine Tl_congr (fun k q1 q2 => h1 k q1 (by omega)) (h m e (fun k q1 q2 => ?_))
    have := hb k q1 q2
    rw [h1 k q1 (by omega)] at this
    exact this
  · by_cases e2 : m = gN B
    · rw [e2]
      exact h3
    · obtain ⟨k, q1, q2, q3⟩ := h2 m (by omega) (by omega)
      have := hb k q1 q2
      omega
def JJ (A : aSt) (ss : Nat) : Prop := rG A ∧ GT A ∧ WT (gL A) (gN A) ∧ (∀ j, j < gN A → rW (gL A (j + 1)) ≤ ss) ∧ cUc (gL A) (gN A) + ss ≤ 512
theorem JJ.t {A : aSt} {ss : Nat} (h : JJ A ss) : Tl (gL A) (gN A) := h.2.2.1 (gN A) (Nat.le_refl _) h.1.2.1.1
theorem JJ.n {A : aSt} {ss : Nat} (h : JJ A ss) : gN A ≤ 1138 := by
  obtain ⟨⟨lo, hi, lv, up, h1⟩, h2, h3⟩ := h.t
  have h4 : pgs (gL A) (gN A) ≤ 39 := tre_M h1
  exact c_room h.2.1.2 h.2.2.2.1 h.2.2.2.2 (by omega)
theorem JJ_same {A B : aSt} {ss : Nat} (h : JJ A ss) (hL : gL B = gL A) (hN : gN B = gN A) (hr : rG B) (hg : GT B) : JJ B ss := by
  obtain ⟨-, -, h3, h4, h5⟩ := h
  refine ⟨hr, hg, ?_, ?_, ?_⟩
  · rw [hL, hN]
    exact h3
  · rw [hL, hN]
    exact h4
  · rw [hL, hN]
    exact h5
theorem JJ_fix {A : aSt} {ss p : Nat} (h : JJ A ss) (hp : p < gM A) : JJ (aFix A p) ss := JJ_same h log_fix.1 log_fix.2 (rG_fix h.1 hp) (GT_fix h.2.1)
-- ghosts of a state
def gho (A : aSt) (lo hi lv up : Nat → Nat) : Prop := tre (gC A) (gM A) (fun k => pres (gL A) k (gN A)) lo hi lv up
theorem JJ.gho {A : aSt} {ss : Nat} (h : JJ A ss) : ∃ lo hi lv up, gho A lo hi lv up := h.t.1
theorem gho_same {A B : aSt} {lo hi lv up : Nat → Nat} (h : gho A lo hi lv up) (hL : gL B = gL A) (hN : gN B = gN A) : gho B lo hi lv up := by
  unfold gho gC gM at *
  rw [hL, hN]
  exact h
theorem gho_fix {A : aSt} {p : Nat} {lo hi lv up : Nat → Nat} (h : gho A lo hi lv up) : gho (aFix A p) lo hi lv up := gho_same h log_fix.1 log_fix.2
theorem JJ_sx {A B : aSt} {ss : Nat} (h : JJ A ss) (hs : sx A B) (hr : rG B) (hg : GT B) (hw : WT (gL B) (gN B)) : JJ B ss := by
  obtain ⟨-, -, h3, h4, h5⟩ := h
  obtain ⟨-, -, -, -, -, -, a7, a8, a9, a10⟩ := hs
  refine ⟨hr, hg, hw, fun j hj => ?_, by rw [a7]; exact h5⟩
  by_cases e : j < gN A
  · rw [a8 (j + 1) (by omega) (by omega)]
    exact h4 j e
  · rw [a10 j (by omega) hj]
    exact Nat.zero_le _
-- a split
def pos (A : aSt) (par p : Nat) : Prop := (p = 0 ∧ par = 0) ∨ (p ≠ 0 ∧ par < gM A ∧ (gC A par).1 = true ∧ p ∈ (gC A par).2.1 ∧ (gC A par).2.1.length < 4)
theorem GT_spR {A : aSt} (h : GT A) : GT (aSpR A) ∧ sx A (aSpR A) ∧ (∀ m, gN A < m → m < gN A + 3 → m < rL (gL (aSpR A) (gN A + 1))) ∧ cSc (gL (aSpR A)) (gN (aSpR A)) = cSc (gL A) (gN A) + 3 := by
  have e3 : aSpR A = aAdd (aFix (aSp2 A) 0) (aFmt 0 (gN A + 3) (true, [gM A, gM A + 1], [cMid (gC A 0)])) := rfl
  have e2 : aSp2 A = aAdd (aFixN (aSp1 A) (gM A + 1)) (aFmt (gM A + 1) (gN A + 3) (cHalf (gC A 0) 2)) := rfl
  have e1 : aSp1 A = aAdd (aFixN A (gM A)) (aFmt (gM A) (gN A + 3) (cHalf (gC A 0) 0)) := rfl
  have n0 : gN (aFixN A (gM A)) = gN A := log_fixN.2
  have s1 : sx A (aSp1 A) := by
    rw [e1]
    exact sx_fixN.tr (sx_add (by show 3 ≤ 3; decide) (by show 3 ≤ 5; decide) rfl rfl)
  have g1 : GT (aSp1 A) := by
    rw [e1]
    refine GT_add (GT_fixN h) (trec_s (by show 3 ≤ 3; decide) (by show 3 ≤ 5; decide) rfl rfl ?_ ?_)
    · show gM A ≤ gM (aFixN A (gM A))
      rw [gM_fixN]
      exact Nat.le_refl _
    · show gN (aFixN A (gM A)) + 1 ≤ gN A + 3
      omega
  have m1 : gM (aSp1 A) = gM A + 1 := by
    rw [e1, gM_add (by show 3 < 6; decide), gM_fixN]
    exact Nat.max_eq_right (Nat.le_succ _)
  have n1 : gN (aSp1 A) = gN A + 1 := by
    rw [e1, log_add.2, n0]
  have c1 : cSc (gL (aSp1 A)) (gN (aSp1 A)) = cSc (gL A) (gN A) + 1 := by
    rw [e1, cSc_add, log_fixN.1, log_fixN.2]
    rfl
  have l1 : rL (gL (aSp1 A) (gN A + 1)) = gN A + 3 := by
    rw [e1, log_add.1, n0, upL_self]
    rfl
  rw [e3, e2]
  generalize aSp1 A = A1 at *
  have n2' : gN (aFixN A1 (gM A + 1)) = gN A + 1 := log_fixN.2.trans n1
  have s2 : sx A1 (aAdd (aFixN A1 (gM A + 1)) (aFmt (gM A + 1) (gN A + 3) (cHalf (gC A 0) 2))) := sx_fixN.tr (sx_add (by show 3 ≤ 3; decide) (by show 3 ≤ 5; decide) rfl rfl)
  have g2 : GT (aAdd (aFixN A1 (gM A + 1)) (aFmt (gM A + 1) (gN A + 3) (cHalf (gC A 0) 2))) := by
    refine GT_add (GT_fixN g1) (trec_s (by show 3 ≤ 3; decide) (by show 3 ≤ 5; decide) rfl rfl ?_ ?_)
    · show gM A + 1 ≤ gM (aFixN A1 (gM A + 1))
      rw [gM_fixN, m1]
      exact Nat.le_refl _
    · show gN (aFixN A1 (gM A + 1)) + 1 ≤ gN A + 3
      omega
  have n2 : gN (aAdd (aFixN A1 (gM A + 1)) (aFmt (gM A + 1) (gN A + 3) (cHalf (gC A 0) 2))) = gN A + 2 := by
    rw [log_add.2, n2']
  have c2 : cSc (gL (aAdd (aFixN A1 (gM A + 1)) (aFmt (gM A + 1) (gN A + 3) (cHalf (gC A 0) 2)))) (gN (aAdd (aFixN A1 (gM A + 1)) (aFmt (gM A + 1) (gN A + 3) (cHalf (gC A 0) 2)))) = cSc (gL A1) (gN A1) + 1 := by
    rw [cSc_add, log_fixN.1, log_fixN.2]
    rfl
  generalize aAdd (aFixN A1 (gM A + 1)) (aFmt (gM A + 1) (gN A + 3) (cHalf (gC A 0) 2)) = A2 at *
  have n3' : gN (aFix A2 0) = gN A + 2 := log_fix.2.trans n2
  have s3 : sx A2 (aAdd (aFix A2 0) (aFmt 0 (gN A + 3) (true, [gM A, gM A + 1], [cMid (gC A 0)]))) := sx_fix.tr (sx_add (by show 3 ≤ 3; decide) (by show 3 ≤ 5; decide) rfl rfl)
  refine ⟨GT_add (GT_fix g2) (trec_s (by show 3 ≤ 3; decide) (by show 3 ≤ 5; decide) rfl rfl (Nat.zero_le _) ?_), (s1.tr s2).tr s3, fun m q1 q2 => ?_, ?_⟩
  · show gN (aFix A2 0) + 1 ≤ gN A + 3
    omega
  · rw [(s2.tr s3).2.2.2.2.2.2.2.1 (gN A + 1) (by omega) (by omega), l1]
    exact q2
  · rw [cSc_add, log_fix.1, log_fix.2, c2, c1]
    rfl
theorem GT_spB {A : aSt} {par p s : Nat} (h : GT A) (hp : p < gM A) (hq : par < gM A) : GT (aSpB A par p s) ∧ sx A (aSpB A par p s) ∧ (∀ m, gN A < m → m < gN A + 3 → m < rL (gL (aSpB A par p s) (gN A + 1))) ∧ cSc (gL (aSpB A par p s)) (gN (aSpB A par p s)) = cSc (gL A) (gN A) + 3 := by
  have e3 : aSpB A par p s = aAdd (aFix (aSb2 A p) par) (aLnk par (gN A + 3) s (gM A) p) := rfl
  have e2 : aSb2 A p = aAdd (aFix (aSb1 A p) p) (aCutR p (gN A + 3)) := rfl
  have e1 : aSb1 A p = aAdd (aFixN A (gM A)) (aFmt (gM A) (gN A + 3) (cHalf (gC A p) 2)) := rfl
  have n0 : gN (aFixN A (gM A)) = gN A := log_fixN.2
  have s1 : sx A (aSb1 A p) := by
    rw [e1]
    exact sx_fixN.tr (sx_add (by show 3 ≤ 3; decide) (by show 3 ≤ 5; decide) rfl rfl)
  have g1 : GT (aSb1 A p) := by
    rw [e1]
    refine GT_add (GT_fixN h) (trec_s (by show 3 ≤ 3; decide) (by show 3 ≤ 5; decide) rfl rfl ?_ ?_)
    · show gM A ≤ gM (aFixN A (gM A))
      rw [gM_fixN]
      exact Nat.le_refl _
    · show gN (aFixN A (gM A)) + 1 ≤ gN A + 3
      omega
  have m1 : gM (aSb1 A p) = gM A + 1 := by
    rw [e1, gM_add (by show 3 < 6; decide), gM_fixN]
    exact Nat.max_eq_right (Nat.le_succ _)
  have n1 : gN (aSb1 A p) = gN A + 1 := by
    rw [e1, log_add.2, n0]
  have c1 : cSc (gL (aSb1 A p)) (gN (aSb1 A p)) = cSc (gL A) (gN A) + 1 := by
    rw [e1, cSc_add, log_fixN.1, log_fixN.2]
    rfl
  have l1 : rL (gL (aSb1 A p) (gN A + 1)) = gN A + 3 := by
    rw [e1, log_add.1, n0, upL_self]
    rfl
  rw [e3, e2]
  generalize aSb1 A p = A1 at *
  have n2' : gN (aFix A1 p) = gN A + 1 := log_fix.2.trans n1
  have s2 : sx A1 (aAdd (aFix A1 p) (aCutR p (gN A + 3))) := sx_fix.tr (sx_add (by show 3 ≤ 4; decide) (by show 4 ≤ 5; decide) rfl rfl)
  have g2 : GT (aAdd (aFix A1 p) (aCutR p (gN A + 3))) := by
    refine GT_add (GT_fix g1) (trec_s (by show 3 ≤ 4; decide) (by show 4 ≤ 5; decide) rfl rfl ?_ ?_)
    · show p ≤ gM (aFix A1 p)
      rw [gM_fix, m1]
      omega
    · show gN (aFix A1 p) + 1 ≤ gN A + 3
      omega
  have n2 : gN (aAdd (aFix A1 p) (aCutR p (gN A + 3))) = gN A + 2 := by
    rw [log_add.2, n2']
  have m2 : gM A + 1 ≤ gM (aAdd (aFix A1 p) (aCutR p (gN A + 3))) := by
    rw [gM_add (by show 4 < 6; decide), gM_fix, m1]
    exact Nat.le_max_left _ _
  have c2 : cSc (gL (aAdd (aFix A1 p) (aCutR p (gN A + 3)))) (gN (aAdd (aFix A1 p) (aCutR p (gN A + 3)))) = cSc (gL A1) (gN A1) + 1 := by
    rw [cSc_add, log_fix.1, log_fix.2]
    rfl
  generalize aAdd (aFix A1 p) (aCutR p (gN A + 3)) = A2 at *
  have n3' : gN (aFix A2 par) = gN A + 2 := log_fix.2.trans n2
  have s3 : sx A2 (aAdd (aFix A2 par) (aLnk par (gN A + 3) s (gM A) p)) := sx_fix.tr (sx_add (by show 3 ≤ 5; decide) (by show 5 ≤ 5; decide) rfl rfl)
  refine ⟨GT_add (GT_fix g2) (trec_s (by show 3 ≤ 5; decide) (by show 5 ≤ 5; decide) rfl rfl ?_ ?_), (s1.tr s2).tr s3, fun m q1 q2 => ?_, ?_⟩
  · show par ≤ gM (aFix A2 par)
    rw [gM_fix]
    omega
  · show gN (aFix A2 par) + 1 ≤ gN A + 3
    omega
  · rw [(s2.tr s3).2.2.2.2.2.2.2.1 (gN A + 1) (by omega) (by omega), l1]
    exact q2
  · rw [cSc_add, log_fix.1, log_fix.2, c2, c1]
    rfl
