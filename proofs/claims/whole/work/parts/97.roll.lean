/-! Changes, ends, rolling back, in the model. -/
theorem hasK_hsw {lg : Nat → aRec} {s k : Nat} : ∀ {n : Nat}, hasK lg s k n = true → hsw lg s n = true
  | 0, h => by cases h
  | n + 1, h => by
    rw [hasK, Bool.or_eq_true, decide_eq_true_eq] at h
    rw [hsw]
    rcases h with h | h
    · rw [hasK_hsw h, Bool.true_or]
    · rw [decide_eq_true h.2.1, Bool.or_true]
-- what a change does
theorem chg_eff {A : aSt} {K p s u L k : Nat} {v : Int32} {c : aCon} (hK : K = 1 ∨ K = 2) :
    (∀ j, pres (gL (aAdd A (aChg K p s u L k v c))) j (gN (aAdd A (aChg K p s u L k v c))) = if j = k then decide (K = 1) else pres (gL A) j (gN A)) ∧
    (∀ s' j, stk (gL (aAdd A (aChg K p s u L k v c))) s' j (gN (aAdd A (aChg K p s u L k v c))) = if s' = s ∧ j = k then (if u = 0 then (gN A + 1) :: stk (gL A) s k (gN A) else (stk (gL A) s k (gN A)).tail) else stk (gL A) s' j (gN A)) ∧
    (∀ s' j, hasK (gL (aAdd A (aChg K p s u L k v c))) s' j (gN (aAdd A (aChg K p s u L k v c))) = (hasK (gL A) s' j (gN A) || decide (s' = s ∧ j = k))) ∧
    (∀ s', edw (gL (aAdd A (aChg K p s u L k v c))) s' (gN (aAdd A (aChg K p s u L k v c))) = edw (gL A) s' (gN A)) ∧
    (∀ s', hsw (gL (aAdd A (aChg K p s u L k v c))) s' (gN (aAdd A (aChg K p s u L k v c))) = (hsw (gL A) s' (gN A) || decide (s' = s))) ∧
    (∀ m, 1 ≤ m → m ≤ gN A → gL (aAdd A (aChg K p s u L k v c)) m = gL A m) ∧
    cUc (gL (aAdd A (aChg K p s u L k v c))) (gN (aAdd A (aChg K p s u L k v c))) = cUc (gL A) (gN A) + (if u = 0 then 1 else 0) ∧
    cSc (gL (aAdd A (aChg K p s u L k v c))) (gN (aAdd A (aChg K p s u L k v c))) = cSc (gL A) (gN A) := by
  have hu : ∀ m, 1 ≤ m → m ≤ gN A → upL (gL A) (gN A + 1) (aChg K p s u L k v c) m = gL A m := fun m _ h2 => up_pre h2
  have e1 : rK (aChg K p s u L k v c) = K := rfl
  have e2 : rW (aChg K p s u L k v c) = s := rfl
  have e3 : rY (aChg K p s u L k v c) = k := rfl
  have e4 : rU (aChg K p s u L k v c) = u := rfl
  have hc : cSc (gL (aAdd A (aChg K p s u L k v c))) (gN (aAdd A (aChg K p s u L k v c))) = cSc (gL A) (gN A) := by
    rw [cSc_add, e1, if_neg (by omega)]
    rfl
  refine ⟨fun j => ?_, fun s' j => ?_, fun s' j => ?_, fun s' => ?_, fun s' => ?_, hu, ?_, hc⟩
  · rw [log_add.1, log_add.2, pres, upL_self, e1, e3, pres_congr hu]
    by_cases e : j = k
    · rw [if_pos e, if_pos ⟨hK, e.symm⟩]
    · rw [if_neg e, if_neg (fun z => e z.2.symm)]
  · rw [log_add.1, log_add.2, stk, upL_self, e1, e2, e3, e4, stk_congr hu]
    by_cases e : s' = s ∧ j = k
    · rw [if_pos e, if_pos ⟨hK, e.1.symm, e.2.symm⟩, e.1, e.2]
    · rw [if_neg e, if_neg (fun z => e ⟨z.2.1.symm, z.2.2.symm⟩)]
  · rw [log_add.1, log_add.2, hasK, upL_self, e1, e2, e3, hasK_congr hu]
    congr 1
    exact decide_eq_decide.mpr ⟨fun z => ⟨z.2.1.symm, z.2.2.symm⟩, fun z => ⟨hK, z.1.symm, z.2.symm⟩⟩
  · rw [log_add.1, log_add.2, edw, upL_self, e1, decide_eq_false (fun z => by omega), Bool.or_false, edw_congr hu]
  · rw [log_add.1, log_add.2, hsw, upL_self, e2, hsw_congr hu]
    congr 1
    exact decide_eq_decide.mpr ⟨fun z => z.symm, fun z => z.symm⟩
  · rw [log_add.1, log_add.2, cUc, upL_self, e1, e4, cUc_congr hu]
    by_cases e : u = 0
    · rw [if_pos e, if_pos ⟨hK, e⟩]
    · rw [if_neg e, if_neg (fun z => e z.2)]
theorem JJ_chg {A : aSt} {ss K p s u k : Nat} {v : Int32} (hJ : JJ A ss) (hl : LF A p k) (hk : k < 40) (hK : K = 1 ∨ K = 2) (hro : K = 1 → (gC A p).2.1[lpos k (gC A p).2.1]? = some k ∨ (gC A p).2.1.length < 4) (hin : K = 2 → k ∈ (gC A p).2.1) (s1 : 1 ≤ s) (s2 : s ≤ ss) (hed : edw (gL A) s (gN A) = false) (hex : ∀ s', 1 ≤ s' → s' ≠ s → hasK (gL A) s' k (gN A) = true → edw (gL A) s' (gN A) = true) (hu : u ≠ 0 → (stk (gL A) s k (gN A)).head? = some u ∧ decide (K = 1) = rH (gL A u)) (hcu : cUc (gL A) (gN A) + (if u = 0 then 1 else 0) + ss ≤ 512) :
    JJ (aAdd A (aChg K p s u (gN A + 1) k v (gC A p))) ss := by
  have hn := hJ.n
  have h512 := hJ.2.2.2.2
  have hw := hl.w
  have hT := hJ.t
  have h40 := gM_le hJ.1.1.1
  obtain ⟨l1, l2, lo, hi, lv, up, l3, l4, l5⟩ := hl
  have hule : u ≤ gN A := by
    by_cases e : u = 0
    · omega
    · exact (stk_le (head_mem (hu e).1)).2
  have hx : okr A (aChg K p s u (gN A + 1) k v (gC A p)) := by
    refine ⟨⟨by show K < 8; omega, fun _ => by show p < 40; omega, by show s < 2000; omega, by show u < gN A + 1; omega, by show gN A + 1 < 2000; omega, by show k < 64; omega, fun z => by have z : 6 ≤ K := z; omega⟩, fun _ => ?_⟩
    unfold legal
    have e1 : rK (aChg K p s u (gN A + 1) k v (gC A p)) = K := rfl
    rw [e1]
    rcases hK with rfl | rfl
    · exact ⟨l2, hro rfl⟩
    · exact ⟨l2, hin rfl⟩
  have hrH : decide (k ∈ (gC A p).2.1) = pres (gL A) k (gN A) := by
    by_cases hm : k ∈ (gC A p).2.1
    · rw [decide_eq_true hm, hw.2.mp hm]
    · rw [decide_eq_false hm]
      exact (cb (fun z => hm (hw.2.mpr z))).symm
  obtain ⟨r1, r2⟩ := rG_chg hJ.1 hx (by show K = 1 ∨ K = 2; exact hK) l1 rfl (by omega) (fun z => by
    have z : K = 2 := z
    exact srt_at hw.1 (hin z))
  have ht : trec (gL A) (gN A) (aChg K p s u (gN A + 1) k v (gC A p)) := by
    refine ⟨fun _ => ⟨hk, s1, hed, hex, hrH, fun z => ?_, hu⟩, fun z => ?_, fun z => ?_, fun _ => Nat.le_of_lt l1, Nat.le_refl _, by show 1 ≤ K; omega, by show K < 8; omega⟩
    · exact decide_eq_true (hin z)
    · have z : 3 ≤ K := z
      omega
    · have z : 6 ≤ K := z
      omega
  have hgt := GT_add hJ.2.1 ht
  obtain ⟨f1, f2, f3, f4, f5, f6, f7, f8⟩ := chg_eff (A := A) (K := K) (p := p) (s := s) (u := u) (L := gN A + 1) (k := k) (v := v) (c := gC A p) hK
  have hC := gC_add' (A := A) (x := aChg K p s u (gN A + 1) k v (gC A p)) (q := p) (by show K < 6; omega) rfl
  have hap : app (aChg K p s u (gN A + 1) k v (gC A p)) (gC A p) = if K = 1 then cEnter k v (gC A p) else cDrop k (gC A p) := by
    rcases hK with rfl | rfl
    · rfl
    · rfl
  rw [hap] at hC
  have gh : gho (aAdd A (aChg K p s u (gN A + 1) k v (gC A p))) lo hi lv up := by
    unfold gho
    rw [r2]
    obtain ⟨q1, q2⟩ := (l3.2.2.1 p l1).2.2.2.1 l2
    refine tre_chg (pr := fun j => pres (gL A) j (gN A)) l3 l1 l2 hC ?_ ?_ (fun j hj => ?_)
    · split
      · exact cEnter_b.trans l2
      · exact l2
    · have e : (fun j => pres (gL (aAdd A (aChg K p s u (gN A + 1) k v (gC A p)))) j (gN (aAdd A (aChg K p s u (gN A + 1) k v (gC A p))))) = fun j => if j = k then decide (K = 1) else pres (gL A) j (gN A) := funext f1
      rw [e]
      rcases hK with rfl | rfl
      · exact lfc_set q2 l4 l5
      · exact lfc_out q2
    · show pres (gL (aAdd A (aChg K p s u (gN A + 1) k v (gC A p)))) j (gN (aAdd A (aChg K p s u (gN A + 1) k v (gC A p)))) = pres (gL A) j (gN A)
      rw [f1 j, if_neg (fun z => hj (by rw [z]; exact ⟨l4, l5⟩))]
  have hN : gN (aAdd A (aChg K p s u (gN A + 1) k v (gC A p))) = gN A + 1 := log_add.2
  have hlast : rW (gL (aAdd A (aChg K p s u (gN A + 1) k v (gC A p))) (gN A + 1)) = s := by
    rw [log_add.1, upL_self]
    rfl
  have hMe : pgs (gL (aAdd A (aChg K p s u (gN A + 1) k v (gC A p)))) (gN (aAdd A (aChg K p s u (gN A + 1) k v (gC A p)))) = pgs (gL A) (gN A) := r2
  generalize aAdd A (aChg K p s u (gN A + 1) k v (gC A p)) = B at *
  refine ⟨r1, hgt, WT_grow hJ.2.2.1 f6 (fun m q1 q2 => by omega) ⟨⟨lo, hi, lv, up, gh⟩, ?_, r1.2.2.2.2⟩, fun j hj => ?_, ?_⟩
  · rw [f8, hMe]
    exact hT.2.1
  · by_cases e : j = gN A
    · rw [e, hlast]
      exact s2
    · rw [f6 (j + 1) (by omega) (by omega)]
      exact hJ.2.2.2.1 j (by omega)
  · rw [f7]
    exact hcu
-- what an end does
theorem end_eff {A : aSt} {K s : Nat} (hK : K = 6 ∨ K = 7) :
    (∀ j, pres (gL (aEnd A K s)) j (gN (aEnd A K s)) = pres (gL A) j (gN A)) ∧ (∀ s' j, hasK (gL (aEnd A K s)) s' j (gN (aEnd A K s)) = hasK (gL A) s' j (gN A)) ∧
    (∀ s', edw (gL (aEnd A K s)) s' (gN (aEnd A K s)) = (edw (gL A) s' (gN A) || decide (s' = s))) ∧ (∀ s', hsw (gL (aEnd A K s)) s' (gN (aEnd A K s)) = (hsw (gL A) s' (gN A) || decide (s' = s))) ∧
    (∀ m, 1 ≤ m → m ≤ gN A → gL (aEnd A K s) m = gL A m) ∧ cUc (gL (aEnd A K s)) (gN (aEnd A K s)) = cUc (gL A) (gN A) ∧ cSc (gL (aEnd A K s)) (gN (aEnd A K s)) = cSc (gL A) (gN A) := by
  unfold aEnd
  have hu : ∀ m, 1 ≤ m → m ≤ gN A → upL (gL A) (gN A + 1) (K, 0, s, 0, gN A + 1, 0, 0, false, 0, (false, [], [])) m = gL A m := fun m _ h2 => up_pre h2
  have e1 : rK (K, 0, s, 0, gN A + 1, 0, 0, false, 0, (false, [], [])) = K := rfl
  have e2 : rW (K, 0, s, 0, gN A + 1, 0, 0, false, 0, (false, [], [])) = s := rfl
  have h1 : ¬ (K = 1 ∨ K = 2) := by omega
  refine ⟨fun j => ?_, fun s' j => ?_, fun s' => ?_, fun s' => ?_, hu, ?_, ?_⟩
  · rw [log_add.1, log_add.2, pres, upL_self, e1, if_neg (fun z => h1 z.1), pres_congr hu]
  · rw [log_add.1, log_add.2, hasK, upL_self, e1, decide_eq_false (fun z => h1 z.1), Bool.or_false, hasK_congr hu]
  · rw [log_add.1, log_add.2, edw, upL_self, e1, e2, edw_congr hu]
    congr 1
    exact decide_eq_decide.mpr ⟨fun z => z.1.symm, fun z => ⟨z.symm, by omega⟩⟩
  · rw [log_add.1, log_add.2, hsw, upL_self, e2, hsw_congr hu]
    congr 1
    exact decide_eq_decide.mpr ⟨fun z => z.symm, fun z => z.symm⟩
  · rw [log_add.1, log_add.2, cUc, upL_self, e1, if_neg (fun z => h1 z.1), cUc_congr hu]
    rfl
  · rw [cSc_add, e1, if_neg (by omega)]
    rfl
theorem JJ_end {A : aSt} {ss K s : Nat} (hJ : JJ A ss) (hK : K = 6 ∨ K = 7) (s1 : 1 ≤ s) (s2 : s ≤ ss) (hed : edw (gL A) s (gN A) = false) : JJ (aEnd A K s) ss := by
  have hn := hJ.n
  have h512 := hJ.2.2.2.2
  have hT := hJ.t
  obtain ⟨lo, hi, lv, up, hg⟩ := hJ.gho
  have r1 := rG_end (s := s) hJ.1 hK (by omega) (by omega)
  have h6 : ¬ K < 6 := by omega
  have ht : trec (gL A) (gN A) (K, 0, s, 0, gN A + 1, 0, 0, false, 0, (false, [], [])) := by
    refine ⟨fun z => ?_, fun z z2 => ?_, fun _ => ⟨s1, hed, rfl⟩, fun z => absurd z h6, Nat.le_refl _, by show 1 ≤ K; omega, by show K < 8; omega⟩
    · have z : K = 1 ∨ K = 2 := z
      omega
    · have z : 3 ≤ K := z
      have z2 : K ≤ 5 := z2
      omega
  have hgt : GT (aEnd A K s) := GT_add hJ.2.1 ht
  obtain ⟨f1, f2, f3, f4, f5, f6, f7⟩ := end_eff (A := A) (s := s) hK
  have hC : ∀ x, gC (aEnd A K s) x = gC A x := fun x => gC_addE (A := A) (x := (K, 0, s, 0, gN A + 1, 0, 0, false, 0, (false, [], []))) h6 x
  have hMe : gM (aEnd A K s) = gM A := gM_addE (A := A) (x := (K, 0, s, 0, gN A + 1, 0, 0, false, 0, (false, [], []))) h6
  have gh : gho (aEnd A K s) lo hi lv up := by
    unfold gho
    rw [hMe]
    exact tre_pr hg f1 hC
  have hN : gN (aEnd A K s) = gN A + 1 := rfl
  have hlast : rW (gL (aEnd A K s) (gN A + 1)) = s := by
    unfold aEnd
    rw [log_add.1, upL_self]
    rfl
  have hMp : pgs (gL (aEnd A K s)) (gN (aEnd A K s)) = pgs (gL A) (gN A) := hMe
  generalize aEnd A K s = B at *
  refine ⟨r1, hgt, WT_grow hJ.2.2.1 f5 (fun m q1 q2 => by omega) ⟨⟨lo, hi, lv, up, gh⟩, ?_, r1.2.2.2.2⟩, fun j hj => ?_, ?_⟩
  · rw [f7, hMp]
    exact hT.2.1
  · by_cases e : j = gN A
    · rw [e, hlast]
      exact s2
    · rw [f5 (j + 1) (by omega) (by omega)]
      exact hJ.2.2.2.1 j (by omega)
  · rw [f6]
    exact h512
-- who has what, as it was
def ef (A B : aSt) : Prop := (∀ s, edw (gL B) s (gN B) = edw (gL A) s (gN A)) ∧ (∀ s k, hasK (gL B) s k (gN B) = hasK (gL A) s k (gN A)) ∧ (∀ s, 1 ≤ s → hsw (gL B) s (gN B) = hsw (gL A) s (gN A)) ∧ gN A ≤ gN B ∧ (∀ m, 1 ≤ m → m ≤ gN A → gL B m = gL A m) ∧ cUc (gL B) (gN B) = cUc (gL A) (gN A)
theorem ef.rf (A : aSt) : ef A A := ⟨fun _ => rfl, fun _ _ => rfl, fun _ _ => rfl, Nat.le_refl _, fun _ _ _ => rfl, rfl⟩
theorem ef.tr {A B C : aSt} (h1 : ef A B) (h2 : ef B C) : ef A C := ⟨fun s => (h2.1 s).trans (h1.1 s), fun s k => (h2.2.1 s k).trans (h1.2.1 s k), fun s hs => (h2.2.2.1 s hs).trans (h1.2.2.1 s hs), Nat.le_trans h1.2.2.2.1 h2.2.2.2.1, fun m q1 q2 => (h2.2.2.2.2.1 m q1 (Nat.le_trans q2 h1.2.2.2.1)).trans (h1.2.2.2.2.1 m q1 q2), h2.2.2.2.2.2.trans h1.2.2.2.2.2⟩
-- an undo is a change on top of splits
theorem undo_eff {A B : aSt} {K p s u L k : Nat} {v : Int32} {c : aCon} (hs : sx A B) (hK : K = 1 ∨ K = 2) (h0 : u ≠ 0) (hh : hasK (gL A) s k (gN A) = true) : ef A (aAdd B (aChg K p s u L k v c)) ∧ (∀ s' j, stk (gL (aAdd B (aChg K p s u L k v c))) s' j (gN (aAdd B (aChg K p s u L k v c))) = if s' = s ∧ j = k then (stk (gL A) s k (gN A)).tail else stk (gL A) s' j (gN A)) := by
  obtain ⟨f1, f2, f3, f4, f5, f6, f7, f8⟩ := chg_eff (A := B) (K := K) (p := p) (s := s) (u := u) (L := L) (k := k) (v := v) (c := c) hK
  have hN : gN (aAdd B (aChg K p s u L k v c)) = gN B + 1 := log_add.2
  generalize aAdd B (aChg K p s u L k v c) = D at *
  obtain ⟨a1, a2, a3, a4, a5, a6, a7, a8, a9, a10⟩ := hs
  refine ⟨⟨fun s' => (f4 s').trans (a4 s'), fun s' j => ?_, fun s' h1 => ?_, by omega, fun m q1 q2 => (f6 m q1 (by omega)).trans (a8 m q1 q2), by rw [f7, if_neg h0, a7]; rfl⟩, fun s' j => ?_⟩
  · rw [f3 s' j, a3 s' j]
    by_cases e : s' = s ∧ j = k
    · rw [decide_eq_true e, e.1, e.2, hh]
      rfl
    · rw [decide_eq_false e, Bool.or_false]
  · rw [f5 s', a5 s' h1]
    by_cases e : s' = s
    · rw [decide_eq_true e, e, hasK_hsw hh]
      rfl
    · rw [decide_eq_false e, Bool.or_false]
  · rw [f2 s' j, if_neg h0, a2 s k, a2 s' j]
theorem undo_ok {A : aSt} {ss s m k : Nat} (hJ : JJ A ss) (s1 : 1 ≤ s) (s2 : s ≤ ss) (hed : edw (gL A) s (gN A) = false) (hk : rY (gL A m) = k) (hm : (stk (gL A) s k (gN A)).head? = some m) :
    k < 40 ∧ (rH (gL A m) = true → rokP A k ∧ okP A k) ∧ (rH (gL A m) = false → (gC (aDown A k).1 (aDown A k).2).1 = false ∧ k ∈ (gC (aDown A k).1 (aDown A k).2).2.1) ∧ JJ (aUndo A s m) ss ∧ ef A (aUndo A s m) ∧ ∀ s' j, stk (gL (aUndo A s m)) s' j (gN (aUndo A s m)) = if s' = s ∧ j = k then (stk (gL A) s k (gN A)).tail else stk (gL A) s' j (gN A) := by
  have hn := hJ.n
  have hin := head_mem hm
  have hle := stk_le hin
  have his := stk_is hin
  have hTR := hJ.2.1.2
  have hhas := stk_has hin
  have htm := hTR (m - 1) (by omega)
  rw [show m - 1 + 1 = m by omega] at htm
  obtain ⟨q1, q2, q3, q4, q5, q6, q7⟩ := htm.1 his.1
  rw [hk] at q1
  have hm0 : m ≠ 0 := by omega
  have h512 := hJ.2.2.2.2
  have hex : ∀ s', 1 ≤ s' → s' ≠ s → hasK (gL A) s' k (gN A) = true → edw (gL A) s' (gN A) = true := by
    intro s' z1 z2 z3
    cases he : edw (gL A) s' (gN A) with
    | true => rfl
    | false => exact absurd (TR_one (lg := gL A) z1 s1 hTR z3 hhas he hed) z2
  have hch := TR_chs (lg := gL A) (k := k) s1 hTR hed
  rw [head_tail hm] at hch
  refine ⟨q1, ?_⟩
  unfold aUndo
  rw [hk]
  cases hb : rH (gL A m) with
  | true =>
    rw [if_pos rfl]
    obtain ⟨p1, p2, p3, p4, p5, p6⟩ := put_ok hJ q1
    have e : (aPut A s k (rB (gL A m)) m).1 = aAdd (aPutP A k).1 (aChg 1 (aPutP A k).2 s m (gN (aPutP A k).1 + 1) k (rB (gL A m)) (gC (aPutP A k).1 (aPutP A k).2)) := rfl
    rw [e]
    generalize aPutP A k = B at *
    obtain ⟨u1, u2⟩ := undo_eff (K := 1) (p := B.2) (s := s) (u := m) (L := gN B.1 + 1) (k := k) (v := rB (gL A m)) (c := gC B.1 B.2) p4 (Or.inl rfl) hm0 hhas
    obtain ⟨a1, a2, a3, a4, a5, a6, a7, a8, a9, a10⟩ := p4
    refine ⟨fun _ => ⟨p1, p2⟩, fun z => (by cases z), JJ_chg p3 p5 q1 (Or.inl rfl) (fun _ => p6) (fun z => absurd z (by decide)) s1 s2 (by rw [a4]; exact hed) (fun s' z1 z2 z3 => ?_) (fun _ => ⟨by rw [a2]; exact hm, ?_⟩) ?_, u1, u2⟩
    · rw [a4]
      rw [a3] at z3
      exact hex s' z1 z2 z3
    · rw [a8 m hle.1 hle.2, hb]
      rfl
    · rw [a7, if_neg hm0]
      exact h512
  | false =>
    rw [if_neg (by decide)]
    obtain ⟨d1, d2, d3, d4, d5, d6⟩ := down_ok hJ q1
    have hK1 : rK (gL A m) = 1 := by
      rcases his.1 with z | z
      · exact z
      · rw [q6 z] at hb
        cases hb
    have hpr : pres (gL A) k (gN A) = true := by
      rw [← hch.1, hK1]
      rfl
    have hkm : k ∈ (gC (aDown A k).1 (aDown A k).2).2.1 := d1.w.2.mpr (by rw [d4, d5]; exact hpr)
    have e : (aTake A s k m 0).1 = aAdd (aDown A k).1 (aChg 2 (aDown A k).2 s m (gN (aDown A k).1 + 1) k 0 (gC (aDown A k).1 (aDown A k).2)) := by
      unfold aTake
      rw [if_pos hkm, aLast_e (Nat.zero_le _), d5]
    rw [e]
    generalize aDown A k = B at *
    obtain ⟨u1, u2⟩ := undo_eff (K := 2) (p := B.2) (s := s) (u := m) (L := gN B.1 + 1) (k := k) (v := 0) (c := gC B.1 B.2) d3 (Or.inr rfl) hm0 hhas
    refine ⟨fun z => (by cases z), fun _ => ⟨d1.2.1, hkm⟩, JJ_chg d2 d1 q1 (Or.inr rfl) (fun z => absurd z (by decide)) (fun _ => hkm) s1 s2 (by rw [d4, d5]; exact hed) (by rw [d4, d5]; exact hex) (fun _ => ⟨by rw [d4, d5]; exact hm, ?_⟩) ?_, u1, u2⟩
    · rw [d4, hb]
      rfl
    · rw [d4, d5, if_neg hm0]
      exact h512
theorem head_max {l : List Nat} {m : Nat} (hd : l.Pairwise (· > ·)) (hm : m ∈ l) (hx : ∀ x ∈ l, x ≤ m) : l.head? = some m := by
  match l, hd, hm, hx with
  | a :: r, hd, hm, hx =>
    rw [List.pairwise_cons] at hd
    rcases List.mem_cons.mp hm with h | h
    · rw [h]
      rfl
    · have h1 := hd.1 m h
      have h2 := hx a (by simp)
      omega
theorem roll_ok {ss s : Nat} (s1 : 1 ≤ s) (s2 : s ≤ ss) : ∀ (n : Nat) (A : aSt) (c : Nat), JJ A ss → edw (gL A) s (gN A) = false → n ≤ gN A → (∀ k, ∀ m ∈ stk (gL A) s k (gN A), m ≤ n) → rokRl s n A ∧ okRl s n A ∧ JJ (aRolL s n A c).1 ss ∧ ef A (aRolL s n A c).1
  | 0, A, c, hJ, hed, hn, hst => by
    have := hJ.n
    exact ⟨⟨hJ.1, by omega⟩, ⟨hJ.1.1.1, by omega⟩, hJ, ef.rf A⟩
  | n + 1, A, c, hJ, hed, hn, hst => by
    have hnn := hJ.n
    have hki := hJ.1.2.2.2.1.k hJ.1.1.1
    have hR : aRolL s (n + 1) A c = if rUn A s (n + 1) = true then aRolL s n (aUndo A s (n + 1)) (c + 1) else aRolL s n A c := rfl
    have hr1 : rokRl s (n + 1) A = (rG A ∧ n + 1 ≤ gN A ∧ (rUn A s (n + 1) = true → rY (gL A (n + 1)) < 40 ∧ (rH (gL A (n + 1)) = true → rokP A (rY (gL A (n + 1)))) ∧ (rH (gL A (n + 1)) = false → (gC (aDown A (rY (gL A (n + 1)))).1 (aDown A (rY (gL A (n + 1)))).2).1 = false ∧ rY (gL A (n + 1)) ∈ (gC (aDown A (rY (gL A (n + 1)))).1 (aDown A (rY (gL A (n + 1)))).2).2.1 ∧ gN A < 1144) ∧ rokRl s n (aUndo A s (n + 1))) ∧ (rUn A s (n + 1) = false → rokRl s n A)) := rfl
    have hr2 : okRl s (n + 1) A = (wA A ∧ kids A ∧ n + 1 ≤ gN A ∧ (rUn A s (n + 1) = true → rY (gL A (n + 1)) < 40 ∧ (rH (gL A (n + 1)) = true → okP A (rY (gL A (n + 1)))) ∧ (rH (gL A (n + 1)) = false → (gC (aDown A (rY (gL A (n + 1)))).1 (aDown A (rY (gL A (n + 1)))).2).1 = false ∧ gN A < 1144) ∧ okRl s n (aUndo A s (n + 1))) ∧ (rUn A s (n + 1) = false → okRl s n A)) := rfl
    rw [hr1, hr2, hR]
    cases hb : rUn A s (n + 1) with
    | true =>
      rw [if_pos rfl]
      have hb' := hb
      unfold rUn at hb'
      rw [Bool.and_eq_true, decide_eq_true_eq, Bool.not_eq_true'] at hb'
      obtain ⟨⟨b1, b2, b3⟩, b4⟩ := hb'
      have hin : n + 1 ∈ stk (gL A) s (rY (gL A (n + 1))) (gN A) := (stk_iff hJ.2.1.2).mpr ⟨by omega, hn, b2, b1, rfl, b3, b4⟩
      have hhd := head_max stk_desc hin (hst (rY (gL A (n + 1))))
      obtain ⟨u1, u2, u3, u4, u5, u6⟩ := undo_ok hJ s1 s2 hed rfl hhd
      generalize hU : aUndo A s (n + 1) = U at *
      have htl := head_tail hhd
      have hds := stk_desc (lg := gL A) (s := s) (k := rY (gL A (n + 1))) (n := gN A)
      rw [htl, List.pairwise_cons] at hds
      obtain ⟨z1, z2, z3, z4⟩ := roll_ok s1 s2 n U (c + 1) u4 (by rw [u5.1]; exact hed) (by have := u5.2.2.2.1; omega) (fun k m hm => by
        rw [u6 s k] at hm
        by_cases e : s = s ∧ k = rY (gL A (n + 1))
        · rw [if_pos e] at hm
          have := hds.1 m hm
          omega
        · rw [if_neg e] at hm
          have h1 := hst k m hm
          have h2 : m ≠ n + 1 := fun z => by
            rw [z] at hm
            exact e ⟨rfl, (stk_is hm).2.2.1.symm⟩
          omega)
      exact ⟨⟨hJ.1, hn, fun _ => ⟨u1, fun z => (u2 z).1, fun z => ⟨(u3 z).1, (u3 z).2, by omega⟩, z1⟩, fun z => (by cases z)⟩, ⟨hJ.1.1.1, hki, hn, fun _ => ⟨u1, fun z => (u2 z).2, fun z => ⟨(u3 z).1, by omega⟩, z2⟩, fun z => (by cases z)⟩, z3, u5.tr z4⟩
    | false =>
      rw [if_neg (by decide)]
      obtain ⟨z1, z2, z3, z4⟩ := roll_ok s1 s2 n A c hJ hed (by omega) (fun k m hm => by
        have h1 := hst k m hm
        have h2 : m ≠ n + 1 := fun z => by
          rw [z] at hm
          obtain ⟨y1, y2, y3, y4, y5, y6, y7⟩ := (stk_iff hJ.2.1.2).mp hm
          unfold rUn at hb
          rw [decide_eq_true ⟨y4, y3, y6⟩, y7] at hb
          cases hb
        omega)
      exact ⟨⟨hJ.1, hn, fun z => (by cases z), fun _ => z1⟩, ⟨hJ.1.1.1, hki, hn, fun z => (by cases z), fun _ => z2⟩, z3, z4⟩
-- all of it
theorem roll_all {A : aSt} {ss s : Nat} (hJ : JJ A ss) (s1 : 1 ≤ s) (s2 : s ≤ ss) (hed : edw (gL A) s (gN A) = false) : rokRl s (gN A) A ∧ okRl s (gN A) A ∧ JJ (aRoll A s).1 ss ∧ (∀ s', edw (gL (aRoll A s).1) s' (gN (aRoll A s).1) = (edw (gL A) s' (gN A) || decide (s' = s))) ∧ (∀ s' k, hasK (gL (aRoll A s).1) s' k (gN (aRoll A s).1) = hasK (gL A) s' k (gN A)) ∧ (∀ s', 1 ≤ s' → hsw (gL (aRoll A s).1) s' (gN (aRoll A s).1) = (hsw (gL A) s' (gN A) || decide (s' = s))) ∧ cUc (gL (aRoll A s).1) (gN (aRoll A s).1) = cUc (gL A) (gN A) := by
  obtain ⟨z1, z2, z3, z4⟩ := roll_ok s1 s2 (gN A) A 0 hJ hed (Nat.le_refl _) (fun k m hm => (stk_le hm).2)
  have e : (aRoll A s).1 = aEnd (aRolL s (gN A) A 0).1 7 s := rfl
  rw [e]
  generalize (aRolL s (gN A) A 0).1 = B at *
  obtain ⟨f1, f2, f3, f4, f5, f6, f7⟩ := end_eff (A := B) (s := s) (K := 7) (Or.inr rfl)
  refine ⟨z1, z2, JJ_end z3 (Or.inr rfl) s1 s2 (by rw [z4.1]; exact hed), fun s' => ?_, fun s' k => ?_, fun s' h1 => ?_, f6.trans z4.2.2.2.2.2⟩
  · rw [f3, z4.1]
  · rw [f2, z4.2.1]
  · rw [f4, z4.2.2.1 s' h1]
