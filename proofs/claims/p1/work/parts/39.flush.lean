/-! The class's flush, backup, damage; a crash: the log replayed, the losers found. -/
def stDm (A : aSt) (p : Nat) (v : Bool) : aSt := match A with
  | (lg, n, fo, im, dm, bk, pl, r, w, e, q) => (lg, n, fo, im, upB dm p v, bk, pl, r, w, e, q)
def stBk (A : aSt) (p : Nat) : aSt := match A with
  | (lg, n, fo, im, dm, bk, pl, r, w, e, q) => (lg, n, aForce lg (lat lg p n) fo, im, dm, upO bk p (some (lat lg p n)), pl, r, w, e, q)
-- answers and ends: damage, flush, backup
def aDamage (A : aSt) (x : Int32) : Int32 × aSt := if x < 0 ∨ nI (gM A) ≤ x then (nI 0, A) else if gDm A x.toNatClampNeg = true then (nI 0, A) else (nI 1, stDm A x.toNatClampNeg true)
def aFlush (A : aSt) (x : Int32) : Int32 × aSt := if x < 0 ∨ nI (gM A) ≤ x then (nI 0, A) else if x.toNatClampNeg ∈ gP A then (b2i (aNewer A x.toNatClampNeg), aWin A (some x.toNatClampNeg)) else (nI 0, A)
def aBackup (A : aSt) (x : Int32) : Int32 × aSt := if x < 0 ∨ nI (gM A) ≤ x then (nI 0, A) else (nI 1, stBk (aFix A x.toNatClampNeg) x.toNatClampNeg)
def wlog (lg : Nat → aRec) (n : Nat) : Prop := n ≤ 1144 ∧ ∀ k, 1 ≤ k → k ≤ n → wrec (lg k) k
theorem wA.log {A : aSt} (h : wA A) : wlog (gL A) (gN A) := by
  obtain ⟨lg, n, fo, im, dm, bk, pl, r, w, e, q⟩ := A
  exact ⟨h.1, h.2.2.1⟩
section DFB
variable {S : zS} {d sl : Nat} {A : aSt}
theorem ifp_n {n : Nat} {x : Int32} {α : Type} {a b : α} (h : x < 0 ∨ nI n ≤ x) : (if x < 0 ∨ nI n ≤ x then a else b) = a := if_pos h
theorem ifp_y {n j : Nat} {α : Type} {a b : α} (hn : n < 2 ^ 31) (h : j < n) : (if nI j < 0 ∨ nI n ≤ nI j then a else b) = b := if_neg (fun z => z.elim (nI_pos (by omega)) (nI_ge h hn))
theorem lkC_dm {p : Nat} {v : Bool} (hl : lkC S d sl A) : lkC (zu S 708 p 0 (b2i v)) d sl (stDm A p v) := by
  obtain ⟨lg, n, fo, im, dm, bk, pl, r, w, e, q⟩ := A
  obtain ⟨l1, l2, l3, l4, l5, l6, l7, l8⟩ := hl
  have hk : ∀ f i j, f ≠ 708 → zu S 708 p 0 (b2i v) f i j = S f i j := fun f i j h => zu_f _ _ h
  refine ⟨llog_congr (fun f i j hf => hk f i j (by omega)) (by rw [hk _ _ _ (by decide)]; exact l1.2.1) l1, by rw [hk _ _ _ (by decide)]; exact l2, fun x hx => ?_, lpool_congr (fun f j hf => hk f 0 j (by omega)) l4, by rw [hk _ _ _ (by decide)]; exact l5, by rw [hk _ _ _ (by decide)]; exact l6, by rw [hk _ _ _ (by decide)]; exact l7, by rw [hk _ _ _ (by decide)]; exact l8⟩
  obtain ⟨a1, a2, a3, a4, a5, a6⟩ := l3 x hx
  refine ⟨by rw [hk _ _ _ (by decide)]; exact a1, by rw [hk _ _ _ (by decide)]; exact a2, lcon_congr (fun f j hf => hk f x j (by omega)) a3, by rw [hk _ _ _ (by decide)]; exact a4, ?_, by rw [hk _ _ _ (by decide)]; exact a6⟩
  unfold upB
  by_cases hx2 : x = p
  · rw [if_pos hx2, hx2, zu_self]
  · rw [if_neg hx2, zu_i _ _ hx2]
    exact a5
theorem k9 {x : Int32} (hl : lkC S d sl A) (hM : gM A ≤ 40) : zwp 9 (0, zent 9 [.inr (some (0, 0)), .inl x], [], (S, d)) (fun o t => ∃ S', o = .inl (some (.inl (aDamage A x).1)) ∧ t = (S', d) ∧ lkC S' d sl (aDamage A x).2 ∧ zkp S S') := by
  unfold aDamage
  rcases ixc (n := gM A) (by omega) x with ⟨j, hj, rfl⟩ | hx
  · rw [ifp_y (by omega) hj, nI_clamp (by omega)]
    refine w9_0 (zwp_mono (c18y hl.m (by omega) hj) (fun o t h => ?_))
    obtain ⟨rfl, rfl⟩ := h
    obtain ⟨a1, a2, a3, a4, a5, a6⟩ := hl.pg (p := j) (by omega)
    refine w9_5 ⟨fun z => absurd z i01, fun _ => ⟨j, rfl, by omega, fun h0 => ⟨j, rfl, by omega, ?_⟩, fun h0 => ?_⟩⟩
    · rw [a5, b2i_0] at h0
      rw [if_neg (by rw [h0]; decide)]
      exact ⟨_, rfl, rfl, lkC_dm (v := true) hl, fun f i j hf => zu_f _ _ (by omega)⟩
    · rw [a5, b2i_0] at h0
      have h1 : gDm A j = true := by
        cases hb : gDm A j with
        | true => rfl
        | false => exact absurd hb h0
      rw [if_pos h1]
      exact ⟨S, rfl, rfl, hl, zkp.rf S⟩
  · rw [ifp_n hx]
    refine w9_0 (zwp_mono (c18n hl.m hx) (fun o t h => ?_))
    obtain ⟨rfl, rfl⟩ := h
    exact w9_5 ⟨fun _ => ⟨S, rfl, rfl, hl, zkp.rf S⟩, fun z => absurd i00 z⟩
theorem k7 {x : Int32} (hl : lkC S d sl A) (hw : wA A) (hM : gM A ≤ 40) : zwp 7 (0, zent 7 [.inr (some (0, 0)), .inl x], [], (S, d)) (fun o t => ∃ S', o = .inl (some (.inl (aFlush A x).1)) ∧ t = (S', d) ∧ lkC S' d sl (aFlush A x).2 ∧ zkp S S') := by
  unfold aFlush
  rcases ixc (n := gM A) (by omega) x with ⟨j, hj, rfl⟩ | hx
  · rw [ifp_y (by omega) hj, nI_clamp (by omega)]
    refine w7_0 (zwp_mono (c18y hl.m (by omega) hj) (fun o t h => ?_))
    obtain ⟨rfl, rfl⟩ := h
    refine w7_5 ⟨fun z => absurd z i01, fun _ => zwp_mono (c48 hl.pool hw.pool.1 (by omega)) (fun o t h => ?_)⟩
    obtain ⟨rfl, rfl⟩ := h
    refine w7_16 ⟨fun h0 => ?_, fun h0 => ?_⟩
    · rw [b2i_0] at h0
      rw [if_neg (of_decide_eq_false h0)]
      exact ⟨S, rfl, rfl, hl, zkp.rf S⟩
    · rw [b2i_0] at h0
      have h1 : j ∈ gP A := by
        by_cases hb : j ∈ gP A
        · exact hb
        · exact absurd (decide_eq_false hb) h0
      rw [if_pos h1]
      refine zwp_mono (c36 (o := some j) hl hw (fun p hp => by cases hp; omega)) (fun o t h => ?_)
      obtain ⟨S', rfl, rfl, g1, g2⟩ := h
      exact w7_24 (b2i_br (P := fun v => ∃ S'', (Sum.inl (some (Sum.inl v)) : zO) = .inl (some (.inl (b2i (aNewer A j)))) ∧ (S', d) = (S'', d) ∧ lkC S'' d sl (aWin A (some j)) ∧ zkp S S'') ⟨S', rfl, rfl, g1, g2⟩)
  · rw [ifp_n hx]
    refine w7_0 (zwp_mono (c18n hl.m hx) (fun o t h => ?_))
    obtain ⟨rfl, rfl⟩ := h
    exact w7_5 ⟨fun _ => ⟨S, rfl, rfl, hl, zkp.rf S⟩, fun z => absurd i00 z⟩
theorem lkC_bk {S1 : zS} {p : Nat} (hl : lkC S d sl A) (hf : zfr S S1 (fun f _ => f = 66)) (h66 : S1 66 0 0 = nI (aForce (gL A) (lat (gL A) p (gN A)) (gFo A))) : lkC (zu S1 709 p 0 (nI (lat (gL A) p (gN A)))) d sl (stBk A p) := by
  obtain ⟨lg, n, fo, im, dm, bk, pl, r, w, e, q⟩ := A
  obtain ⟨l1, l2, l3, l4, l5, l6, l7, l8⟩ := hl
  have h66 : S1 66 0 0 = nI (aForce lg (lat lg p n) fo) := h66
  show lkC (zu S1 709 p 0 (nI (lat lg p n))) d sl _
  have hk : ∀ f i j, f ≠ 709 → f ≠ 66 → zu S1 709 p 0 (nI (lat lg p n)) f i j = S f i j := fun f i j h h2 => by
    rw [zu_f _ _ h]
    exact hf f i j h2
  refine ⟨llog_congr (fun f i j hf => hk f i j (by omega) (by omega)) (by rw [zu_f _ _ (by decide)]; exact h66) l1, by rw [hk _ _ _ (by decide) (by decide)]; exact l2, fun x hx => ?_, lpool_congr (fun f j hf => hk f 0 j (by omega) (by omega)) l4, by rw [hk _ _ _ (by decide) (by decide)]; exact l5, by rw [hk _ _ _ (by decide) (by decide)]; exact l6, by rw [hk _ _ _ (by decide) (by decide)]; exact l7, by rw [hk _ _ _ (by decide) (by decide)]; exact l8⟩
  obtain ⟨a1, a2, a3, a4, a5, a6⟩ := l3 x hx
  refine ⟨by rw [hk _ _ _ (by decide) (by decide)]; exact a1, by rw [hk _ _ _ (by decide) (by decide)]; exact a2, lcon_congr (fun f j hf => hk f x j (by omega) (by omega)) a3, by rw [hk _ _ _ (by decide) (by decide)]; exact a4, by rw [hk _ _ _ (by decide) (by decide)]; exact a5, ?_⟩
  unfold upO
  by_cases hx2 : x = p
  · rw [if_pos hx2, hx2, zu_self]
    rfl
  · rw [if_neg hx2, zu_i _ _ hx2, hf 709 _ _ (show ¬ (709 = 66) by decide)]
    exact a6
theorem k8 {x : Int32} (hl : lkC S d sl A) (hw : wA A) (hM : gM A ≤ 40) : zwp 8 (0, zent 8 [.inr (some (0, 0)), .inl x], [], (S, d)) (fun o t => ∃ S', o = .inl (some (.inl (aBackup A x).1)) ∧ t = (S', d) ∧ lkC S' d sl (aBackup A x).2 ∧ zkp S S') := by
  unfold aBackup
  rcases ixc (n := gM A) (by omega) x with ⟨j, hj, rfl⟩ | hx
  · rw [ifp_y (by omega) hj, nI_clamp (by omega)]
    refine w8_0 (zwp_mono (c18y hl.m (by omega) hj) (fun o t h => ?_))
    obtain ⟨rfl, rfl⟩ := h
    have hj4 : j < 40 := by omega
    refine w8_5 ⟨fun z => absurd z i01, fun _ => zwp_mono (c33 hl hw hj4) (fun o t h => ?_)⟩
    obtain ⟨S1, rfl, rfl, g1, g2⟩ := h
    have hw1 := wA_fix (p := j) hw hj4
    generalize aFix A j = B at g1 hw1
    obtain ⟨a1, a2, a3, a4, a5, a6⟩ := g1.pg hj4
    have hlg := hw1.log
    have hfo : gFo B < 2000 := by
      obtain ⟨lg, n, fo, im, dm, bk, pl, r, w, e, q⟩ := B
      exact hw1.2.1
    refine w8_15 ⟨j, rfl, hj4, ?_⟩
    rw [a1]
    refine zwp_mono (c41 g1.log (lat_le _ _ _) hfo (fun k q1 q2 => (hlg.2 k q1 q2).2.2.2.2.1)) (fun o t h => ?_)
    obtain ⟨S2, rfl, rfl, f0, f1⟩ := h
    have f2 : ∀ f i x, f ≠ 66 → S2 f i x = S1 f i x := fun f i x h => f0 f i x h
    refine w8_31 ⟨j, rfl, hj4, j, rfl, hj4, ?_⟩
    rw [f2 705 _ _ (by decide), a1]
    refine ⟨_, rfl, rfl, lkC_bk g1 f0 f1, g2.tr (fun f i x hf => ?_)⟩
    rw [zu_f _ _ (by omega)]
    exact f2 f i x (by omega)
  · rw [ifp_n hx]
    refine w8_0 (zwp_mono (c18n hl.m hx) (fun o t h => ?_))
    obtain ⟨rfl, rfl⟩ := h
    exact w8_5 ⟨fun _ => ⟨S, rfl, rfl, hl, zkp.rf S⟩, fun z => absurd i00 z⟩
end DFB
