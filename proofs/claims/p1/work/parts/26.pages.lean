/-! The class's pages: what it keeps of them, writing, reading, fixing. -/
-- log, size, forced, image LSNs, damaged, backup LSNs, pool, reads, writes, redone, repairs
abbrev aSt : Type := (Nat → aRec) × Nat × Nat × (Nat → Nat) × (Nat → Bool) × (Nat → Option Nat) × List Nat × Int32 × Int32 × Int32 × Int32
def lpg (S : zS) (lg : Nat → aRec) (n : Nat) (im : Nat → Nat) (dm : Nat → Bool) (bk : Nat → Option Nat) (p : Nat) : Prop := S 705 p 0 = nI (lat lg p n) ∧ S 706 p 0 = nI (cnt lg p n) ∧ lcon S p (con lg p n) ∧ S 707 p 0 = nI (im p) ∧ S 708 p 0 = b2i (dm p) ∧ S 709 p 0 = oI (bk p)
def lkC (S : zS) (d sl : Nat) (A : aSt) : Prop := match A with
  | (lg, n, fo, im, dm, bk, pl, r, w, e, q) => llog S d lg n fo sl ∧ S 4 0 0 = nI (pgs lg n) ∧ (∀ p, p < 40 → lpg S lg n im dm bk p) ∧ lpool S pl ∧ S 8 0 0 = r ∧ S 9 0 0 = w ∧ S 10 0 0 = e ∧ S 11 0 0 = q
def wrec (r : aRec) (k : Nat) : Prop := rK r < 8 ∧ (rK r < 6 → rP r < 40) ∧ rW r < 2000 ∧ rU r < k ∧ rL r < 2000 ∧ rY r < 64 ∧ (6 ≤ rK r → rU r = 0)
def wA (A : aSt) : Prop := match A with
  | (lg, n, fo, im, _, bk, pl, _, _, _, _) => n ≤ 1144 ∧ fo < 2000 ∧ (∀ k, 1 ≤ k → k ≤ n → wrec (lg k) k) ∧ (∀ p, wcon (con lg p n)) ∧ wpool pl ∧ (∀ p ∈ pl, p < 40) ∧ (∀ p, im p ≤ n) ∧ ∀ p x, bk p = some x → x ≤ n
-- the rest of the class's state, and the reference's: as they were
def zkp (S S' : zS) : Prop := ∀ f i j, (f = 6 ∨ f = 7 ∨ f = 960 ∨ f = 512 ∨ f = 576 ∨ 1024 ≤ f) → S' f i j = S f i j
theorem zkp.rf (S : zS) : zkp S S := fun _ _ _ _ => rfl
theorem zkp.tr {S S1 S2 : zS} (h1 : zkp S S1) (h2 : zkp S1 S2) : zkp S S2 := fun f i j h => (h2 f i j h).trans (h1 f i j h)
theorem zkp.of {S S' : zS} {P : Nat → Nat → Prop} (h : zfr S S' P) (hP : ∀ f i, P f i → ¬ (f = 6 ∨ f = 7 ∨ f = 960 ∨ f = 512 ∨ f = 576 ∨ 1024 ≤ f)) : zkp S S' := fun f i j hf => h f i j (fun z => hP f i z hf)
theorem lcon_congr {S S' : zS} {p : Nat} {c : aCon} (h : ∀ f j, (f = 768 ∨ f = 769 ∨ f = 832 ∨ f = 896) → S' f p j = S f p j) (hl : lcon S p c) : lcon S' p c :=
  ⟨by rw [h 768 0 (by simp)]; exact hl.1, by rw [h 769 0 (by simp)]; exact hl.2.1, fun i x hx => by rw [h 832 i (by simp)]; exact hl.2.2.1 i x hx, fun i x hx => by rw [h 896 i (by simp)]; exact hl.2.2.2 i x hx⟩
theorem lbr_congr {S S' : zS} {n : Nat} {c : aCon} (h : ∀ f j, 200 ≤ f → f < 256 → S' f n j = S f n j) (hl : lbr S n c) : lbr S' n c := by
  obtain ⟨r0, h0, h1, t0, r1, r2, r3, r4, r5, r6, r7⟩ := hl
  exact ⟨by rw [h 204 0 (by decide) (by decide)]; exact r0, h0, h1, t0, r1, r2, r3, by rw [h 200 0 (by decide) (by decide)]; exact r4, by rw [h 201 0 (by decide) (by decide)]; exact r5, by rw [h 202 0 (by decide) (by decide)]; exact r6, fun t1 ht => by rw [h 203 0 (by decide) (by decide)]; exact r7 t1 ht⟩
theorem lrB_congr {S S' : zS} {n : Nat} {r : aRec} (h : ∀ f j, 200 ≤ f → f < 256 → S' f n j = S f n j) (hl : lrB S n r) : lrB S' n r := by
  unfold lrB at hl ⊢
  split at hl
  · exact ⟨by rw [h 200 0 (by decide) (by decide)]; exact hl.1, by rw [h 201 0 (by decide) (by decide)]; exact hl.2.1, by rw [h 206 0 (by decide) (by decide)]; exact hl.2.2.1, by rw [h 207 0 (by decide) (by decide)]; exact hl.2.2.2⟩
  · exact ⟨by rw [h 200 0 (by decide) (by decide)]; exact hl.1, by rw [h 206 0 (by decide) (by decide)]; exact hl.2.1, by rw [h 207 0 (by decide) (by decide)]; exact hl.2.2⟩
  · exact lbr_congr h hl
  · exact ⟨by rw [h 200 0 (by decide) (by decide)]; exact hl.1, by rw [h 201 0 (by decide) (by decide)]; exact hl.2.1, by rw [h 205 0 (by decide) (by decide)]; exact hl.2.2⟩
  · trivial
theorem lrH_congr {S S' : zS} {n pr : Nat} {r : aRec} (h : ∀ f j, 192 ≤ f → f < 200 → f ≠ 198 → S' f n j = S f n j) (hl : lrH S n pr r) : lrH S' n pr r := by
  obtain ⟨a1, a2, a3, a4, a5, a6, a7⟩ := hl
  exact ⟨by rw [h 192 0 (by decide) (by decide) (by decide)]; exact a1, by rw [h 193 0 (by decide) (by decide) (by decide)]; exact a2, by rw [h 194 0 (by decide) (by decide) (by decide)]; exact a3, by rw [h 195 0 (by decide) (by decide) (by decide)]; exact a4, by rw [h 196 0 (by decide) (by decide) (by decide)]; exact a5, by rw [h 197 0 (by decide) (by decide) (by decide)]; exact a6, by rw [h 199 0 (by decide) (by decide) (by decide)]; exact a7⟩
theorem llog_congr {S S' : zS} {d n fo fo' sl : Nat} {lg : Nat → aRec} (h : ∀ f i j, (f = 65 ∨ f = 67 ∨ (192 ≤ f ∧ f < 256)) → S' f i j = S f i j) (h66 : S' 66 0 0 = nI fo') (hl : llog S d lg n fo sl) : llog S' d lg n fo' sl := by
  obtain ⟨l1, l2, l3, l4, l5, l6⟩ := hl
  refine ⟨by rw [h 65 0 0 (by simp)]; exact l1, h66, by rw [h 67 0 0 (by simp)]; exact l3, l4, l5, fun m h1 h2 => ?_⟩
  obtain ⟨a1, a2, a3⟩ := l6 m h1 h2
  exact ⟨lrH_congr (fun f j q1 q2 _ => h f m j (Or.inr (Or.inr ⟨q1, by omega⟩))) a1, by rw [h 198 m 0 (by simp)]; exact a2, lrB_congr (fun f j q1 q2 => h f m j (Or.inr (Or.inr ⟨by omega, q2⟩))) a3⟩
theorem lpg_congr {S S' : zS} {lg : Nat → aRec} {n p : Nat} {im : Nat → Nat} {dm : Nat → Bool} {bk : Nat → Option Nat} (h : ∀ f j, (f = 705 ∨ f = 706 ∨ f = 707 ∨ f = 708 ∨ f = 709 ∨ f = 768 ∨ f = 769 ∨ f = 832 ∨ f = 896) → S' f p j = S f p j) (hl : lpg S lg n im dm bk p) : lpg S' lg n im dm bk p := by
  obtain ⟨a1, a2, a3, a4, a5, a6⟩ := hl
  exact ⟨by rw [h 705 0 (by simp)]; exact a1, by rw [h 706 0 (by simp)]; exact a2, lcon_congr (fun f j hf => h f j (by rcases hf with rfl | rfl | rfl | rfl <;> simp)) a3, by rw [h 707 0 (by simp)]; exact a4, by rw [h 708 0 (by simp)]; exact a5, by rw [h 709 0 (by simp)]; exact a6⟩
theorem lpool_congr {S S' : zS} {l : List Nat} (h : ∀ f j, (f = 257 ∨ f = 320) → S' f 0 j = S f 0 j) (hl : lpool S l) : lpool S' l := ⟨by rw [h 257 0 (by simp)]; exact hl.1, fun i p hp => by rw [h 320 i (by simp)]; exact hl.2 i p hp⟩
-- writing
def aForce (lg : Nat → aRec) (m fo : Nat) : Nat := if 0 < m ∧ fo < rL (lg m) then rL (lg m) else fo
def upN (f : Nat → Nat) (p v : Nat) : Nat → Nat := fun q => if q = p then v else f q
def upB (f : Nat → Bool) (p : Nat) (v : Bool) : Nat → Bool := fun q => if q = p then v else f q
def upO (f : Nat → Option Nat) (p : Nat) (v : Option Nat) : Nat → Option Nat := fun q => if q = p then v else f q
def aNewer (A : aSt) (p : Nat) : Bool := match A with
  | (lg, n, _, im, _, _, _, _, _, _, _) => decide (im p < lat lg p n)
def aWrite (A : aSt) (p : Nat) : aSt := match A with
  | (lg, n, fo, im, dm, bk, pl, r, w, e, q) => (lg, n, aForce lg (lat lg p n) fo, upN im p (lat lg p n), upB dm p false, bk, pl, r, w + nI 1, e, q)
def aWin (A : aSt) (o : Option Nat) : aSt := match o with
  | none => A
  | some p => if aNewer A p = true then aWrite A p else A
theorem aForce_lt {lg : Nat → aRec} {m fo n : Nat} (h : fo < 2000) (hm : m ≤ n) (hL : ∀ k, 1 ≤ k → k ≤ n → wrec (lg k) k) : aForce lg m fo < 2000 := by
  unfold aForce
  split
  · rename_i h1
    exact (hL m (by omega) hm).2.2.2.2.1
  · exact h
theorem wA_write {A : aSt} {p : Nat} (h : wA A) : wA (aWrite A p) := by
  obtain ⟨lg, n, fo, im, dm, bk, pl, r, w, e, q⟩ := A
  obtain ⟨h1, h2, h3, h4, h5, h6, h7, h8⟩ := h
  refine ⟨h1, aForce_lt h2 (lat_le lg p n) h3, h3, h4, h5, h6, fun x => ?_, h8⟩
  unfold upN
  split
  · exact lat_le lg p n
  · exact h7 x
theorem wA_win {A : aSt} {o : Option Nat} (h : wA A) : wA (aWin A o) := by
  unfold aWin
  split
  · exact h
  · split
    · exact wA_write h
    · exact h
-- PageKeeper.writeIfNewer
theorem c36 {S : zS} {d sl : Nat} {A : aSt} {o : Option Nat} (hl : lkC S d sl A) (hw : wA A) (ho : ∀ p, o = some p → p < 40) : zwp 36 (0, zent 36 [.inr (some (0, 0)), .inl (oI o)], [], (S, d)) (fun o' t => ∃ S', o' = .inl (some (.inl (b2i (o.any (aNewer A))))) ∧ t = (S', d) ∧ lkC S' d sl (aWin A o) ∧ zkp S S') := by
  obtain ⟨lg, n, fo, im, dm, bk, pl, r, w, e, q⟩ := A
  obtain ⟨l1, l2, l3, l4, l5, l6, l7, l8⟩ := id hl
  obtain ⟨h1, h2, h3, h4, h5, h6, h7, h8⟩ := hw
  cases o with
  | none => exact w36_0 ⟨fun _ => ⟨S, rfl, rfl, hl, zkp.rf S⟩, fun z => absurd rfl z⟩
  | some p =>
    have hp : p < 40 := ho p rfl
    obtain ⟨a1, a2, a3, a4, a5, a6⟩ := l3 p hp
    have hlat := lat_le lg p n
    have him := h7 p
    refine w36_0 ⟨fun z => absurd z (nI_ne_m1 (by omega)), fun _ => ⟨p, rfl, hp, p, rfl, hp, fun hlt => ⟨p, rfl, hp, ?_⟩, fun hnlt => ?_⟩⟩
    · rw [a1, a4, nI_lt_iff (by omega) (by omega)] at hlt
      rw [a1]
      refine zwp_mono (c41 l1 hlat h2 (fun k q1 q2 => (h3 k q1 q2).2.2.2.2.1)) (fun o t hq => ?_)
      obtain ⟨S1, rfl, rfl, f0, g1⟩ := hq
      have f1 : ∀ f i j, f ≠ 66 → S1 f i j = S f i j := fun f i j z => f0 f i j z
      have hnew : aNewer (lg, n, fo, im, dm, bk, pl, r, w, e, q) p = true := decide_eq_true hlt
      refine w36_46 ⟨_, ?_, rfl, ?_, ?_⟩
      · show _ = Sum.inl (some (Sum.inl (b2i ((some p).any _))))
        rw [Option.any_some, hnew]
        rfl
      · have hk : ∀ f i j, f ≠ 66 → f ≠ 707 → f ≠ 708 → f ≠ 9 → zu (zu (zu S1 707 p 0 (S1 705 p 0)) 708 p 0 (nI 0)) 9 0 0 (S1 9 0 0 + nI 1) f i j = S f i j := fun f i j q1 q2 q3 q4 => by
          rw [zu_f _ _ q4, zu_f _ _ q3, zu_f _ _ q2]
          exact f1 f i j q1
        show lkC _ d sl (if aNewer (lg, n, fo, im, dm, bk, pl, r, w, e, q) p = true then aWrite (lg, n, fo, im, dm, bk, pl, r, w, e, q) p else (lg, n, fo, im, dm, bk, pl, r, w, e, q))
        rw [if_pos hnew]
        refine ⟨llog_congr (fun f i j hf => hk f i j (by omega) (by omega) (by omega) (by omega)) ?_ l1, ?_, fun x hx => ?_, lpool_congr (fun f j hf => hk f 0 j (by omega) (by omega) (by omega) (by omega)) l4, ?_, ?_, ?_, ?_⟩
        · rw [zu_f _ _ (by decide), zu_f _ _ (by decide), zu_f _ _ (by decide)]
          exact g1
        · rw [hk 4 0 0 (by decide) (by decide) (by decide) (by decide)]
          exact l2
        · by_cases ex : x = p
          · subst ex
            refine ⟨?_, ?_, lcon_congr (fun f j hf => hk f x j (by omega) (by omega) (by omega) (by omega)) a3, ?_, ?_, ?_⟩
            · rw [hk 705 _ _ (by decide) (by decide) (by decide) (by decide)]
              exact a1
            · rw [hk 706 _ _ (by decide) (by decide) (by decide) (by decide)]
              exact a2
            · rw [zu_f _ _ (by decide), zu_f _ _ (by decide), zu_self, f1 705 _ _ (by decide), a1]
              simp [upN]
            · rw [zu_f _ _ (by decide), zu_self]
              simp [upB, b2i]
            · rw [hk 709 _ _ (by decide) (by decide) (by decide) (by decide)]
              exact a6
          · have hx' := l3 x hx
            obtain ⟨b1, b2, b3, b4, b5, b6⟩ := hx'
            refine ⟨?_, ?_, lcon_congr (fun f j hf => hk f x j (by omega) (by omega) (by omega) (by omega)) b3, ?_, ?_, ?_⟩
            · rw [hk 705 _ _ (by decide) (by decide) (by decide) (by decide)]
              exact b1
            · rw [hk 706 _ _ (by decide) (by decide) (by decide) (by decide)]
              exact b2
            · rw [zu_f _ _ (by decide), zu_f _ _ (by decide), zu_i _ _ ex, f1 707 _ _ (by decide), b4]
              simp [upN, ex]
            · rw [zu_f _ _ (by decide), zu_i _ _ ex, zu_f _ _ (by decide), f1 708 _ _ (by decide), b5]
              simp [upB, ex]
            · rw [hk 709 _ _ (by decide) (by decide) (by decide) (by decide)]
              exact b6
        · rw [hk 8 _ _ (by decide) (by decide) (by decide) (by decide)]
          exact l5
        · rw [zu_self, f1 9 _ _ (by decide), l6]
        · rw [hk 10 _ _ (by decide) (by decide) (by decide) (by decide)]
          exact l7
        · rw [hk 11 _ _ (by decide) (by decide) (by decide) (by decide)]
          exact l8
      · intro f i j hf
        rw [zu_f _ _ (by omega), zu_f _ _ (by omega), zu_f _ _ (by omega)]
        exact f1 f i j (by omega)
    · rw [a1, a4, nI_lt_iff (by omega) (by omega)] at hnlt
      have hnew : aNewer (lg, n, fo, im, dm, bk, pl, r, w, e, q) p = false := decide_eq_false hnlt
      refine ⟨S, ?_, rfl, ?_, zkp.rf S⟩
      · show _ = Sum.inl (some (Sum.inl (b2i ((some p).any _))))
        rw [Option.any_some, hnew]
        rfl
      · show lkC _ d sl (if aNewer (lg, n, fo, im, dm, bk, pl, r, w, e, q) p = true then _ else _)
        rw [if_neg (by rw [hnew]; decide)]
        exact hl
