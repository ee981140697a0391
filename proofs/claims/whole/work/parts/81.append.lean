/-! The reference: a record is added. -/
theorem nar8 {a : Nat} (h : a < 128) : (nI a).toInt8.toInt32 = nI a := by
  apply Int32.toInt_inj.mp
  rw [Int8.toInt_toInt32, Int32.toInt_toInt8, nI_toInt (by omega), Int.bmod_def]
  omega
theorem nar16 {a : Nat} (h : a < 32768) : (nI a).toInt16.toInt32 = nI a := by
  apply Int32.toInt_inj.mp
  rw [Int16.toInt_toInt32, Int32.toInt_toInt16, nI_toInt (by omega), Int.bmod_def]
  omega
theorem narb {a : Nat} (h : a < 128) : vp_nar .byte (nI a).toInt8.toInt32 = nI a := by
  show (nI a).toInt8.toInt32.toInt8.toInt32 = nI a
  rw [nar8 h, nar8 h]
theorem nars {a : Nat} (h : a < 32768) : vp_nar .short (nI a).toInt16.toInt32 = nI a := by
  show (nI a).toInt16.toInt32.toInt16.toInt32 = nI a
  rw [nar16 h, nar16 h]
theorem nars0 : vp_nar .short (nI 0) = nI 0 := by decide
theorem fmts_congr {lg lg' : Nat → aRec} : ∀ {n : Nat}, (∀ m, 1 ≤ m → m ≤ n → lg' m = lg m) → fmts lg' n = fmts lg n
  | 0, _ => rfl
  | n + 1, h => by
    unfold fmts
    rw [h (n + 1) (by omega) (Nat.le_refl _), fmts_congr (fun m h1 h2 => h m h1 (by omega))]
-- the link with another number of pages
def lkN (S : zS) (ck m : Nat) (A : aSt) : Prop := S 1038 0 0 = nI m ∧ lkM (zu S 1038 0 0 (nI (gM A))) ck A
theorem lkM.n {S : zS} {ck : Nat} {A : aSt} (h : lkM S ck A) : lkN S ck (gM A) A := by
  refine ⟨h.m, lkM_fr (fun f i j hf => ?_) h⟩
  by_cases e : f = 1038 ∧ i = 0 ∧ j = 0
  · obtain ⟨rfl, rfl, rfl⟩ := e
    rw [zu_self]
    exact h.m.symm
  · unfold zu
    rw [if_neg e]
theorem mB_row {S S' : zS} {lg : Nat → aRec} {k n : Nat} (hk1 : 1 ≤ k) (hk : k ≤ n) (hleg : rK (lg k) = 3 → (rF (lg k)).2.1.length ≤ 4 ∧ (rF (lg k)).2.2.length ≤ 4) (h : ∀ f j, (f = 1280 ∨ f = 1344 ∨ f = 1408 ∨ f = 1472) → j ≤ n → S' f 0 j = S f 0 j) (h2 : ∀ j, j < 10 * fmts lg n → S' 1664 0 j = S 1664 0 j) (hl : mB S lg k) : mB S' lg k := by
  unfold mB at hl ⊢
  split at hl
  · exact ⟨by rw [h 1280 _ (by simp) hk]; exact hl.1, by rw [h 1344 _ (by simp) hk]; exact hl.2.1, by rw [h 1408 _ (by simp) hk]; exact hl.2.2.1, by rw [h 1472 _ (by simp) hk]; exact hl.2.2.2⟩
  · exact ⟨by rw [h 1280 _ (by simp) hk]; exact hl.1, by rw [h 1408 _ (by simp) hk]; exact hl.2.1, by rw [h 1472 _ (by simp) hk]; exact hl.2.2⟩
  · rename_i e3
    refine ⟨by rw [h 1344 _ (by simp) hk]; exact hl.1, mfm_congr (fun j _ hj => h2 j ?_) (hleg e3) hl.2⟩
    have h3 : fmts lg k ≤ fmts lg n := fmts_mono hk
    have h4 : fmts lg k = fmts lg (k - 1) + 1 := by
      obtain ⟨k0, rfl⟩ : ∃ k0, k = k0 + 1 := ⟨k - 1, by omega⟩
      rw [fmts, if_pos e3]
      rfl
    omega
  · exact ⟨by rw [h 1280 _ (by simp) hk]; exact hl.1, by rw [h 1344 _ (by simp) hk]; exact hl.2.1, by rw [h 1472 _ (by simp) hk]; exact hl.2.2⟩
  · trivial
theorem mB_lg {S : zS} {lg lg' : Nat → aRec} {k : Nat} (h1 : 1 ≤ k) (h : ∀ m, 1 ≤ m → m ≤ k → lg' m = lg m) (hl : mB S lg k) : mB S lg' k := by
  unfold mB at hl ⊢
  rw [h k h1 (Nat.le_refl _), fmts_congr (lg := lg) (lg' := lg') (n := k - 1) (fun m q1 q2 => h m q1 (by omega))]
  exact hl
theorem pleg_f {lg : Nat → aRec} {n k : Nat} (h : pleg lg n) (h1 : 1 ≤ k) (h2 : k ≤ n) (e : rK (lg k) = 3) : (rF (lg k)).2.1.length ≤ 4 ∧ (rF (lg k)).2.2.length ≤ 4 := by
  have h3 := (h (k - 1) (by omega)).2
  rw [show k - 1 + 1 = k by omega] at h3
  have h4 := h3 (by omega)
  unfold legal at h4
  rw [e] at h4
  refine ⟨h4.1.1, ?_⟩
  rw [h4.1.2.2.1]
  exact Nat.le_trans (Nat.sub_le _ _) h4.1.1
-- what adding a record leaves
theorem lkM_add {S S' : zS} {ck m : Nat} {A : aSt} {x : aRec} (hl : lkN S ck m A) (hpl : pleg (gL A) (gN A)) (hf : ∀ f i j, ¬ (f = 1025 ∨ f = 1036 ∨ f = 1038 ∨ (1088 ≤ f ∧ f ≤ 1600 ∧ j = gN A + 1) ∨ (f = 1664 ∧ 10 * fmts (gL A) (gN A) ≤ j)) → S' f i j = S f i j) (h25 : S' 1025 0 0 = nI (gN A + 1)) (hH : mH S' (gN A + 1) x) (hB : mB S' (upL (gL A) (gN A + 1) x) (gN A + 1)) (h36 : S' 1036 0 0 = nI (fmts (upL (gL A) (gN A + 1) x) (gN A + 1))) (h38 : S' 1038 0 0 = nI (pgs (upL (gL A) (gN A + 1) x) (gN A + 1))) : lkM S' ck (aAdd A x) := by
  obtain ⟨lg, n, fo, im, dm, bk, pl, r, w, e, q⟩ := A
  obtain ⟨-, ⟨a1, a2, a3, a4⟩, -, l3, l4, l5, l6, l7, l8⟩ := hl
  have hk : ∀ f i j, f ≠ 1038 → zu S 1038 0 0 (nI (gM (lg, n, fo, im, dm, bk, pl, r, w, e, q))) f i j = S f i j := fun f i j h => zu_f _ _ h
  rw [hk _ _ _ (by decide)] at a1 a2 a3 l5 l6 l7 l8
  have hf' : ∀ f i j, ¬ (f = 1025 ∨ f = 1036 ∨ f = 1038 ∨ (1088 ≤ f ∧ f ≤ 1600 ∧ j = n + 1) ∨ (f = 1664 ∧ 10 * fmts lg n ≤ j)) → S' f i j = S f i j := hf
  refine ⟨⟨h25, by rw [hf' _ _ _ (by omega)]; exact a2, h36, fun k q1 q2 => ?_⟩, h38, fun p hp => mpg_congr (S := zu S 1038 0 0 (nI (gM (lg, n, fo, im, dm, bk, pl, r, w, e, q)))) (fun f hf3 => by rw [hk _ _ _ (by omega)]; exact hf' f 0 p (by omega)) (l3 p hp), mpool_congr (S := zu S 1038 0 0 (nI (gM (lg, n, fo, im, dm, bk, pl, r, w, e, q)))) (fun f j hf3 => by rw [hk _ _ _ (by omega)]; exact hf' f 0 j (by omega)) l4, by rw [hf' _ _ _ (by omega)]; exact l5, by rw [hf' _ _ _ (by omega)]; exact l6, by rw [hf' _ _ _ (by omega)]; exact l7, by rw [hf' _ _ _ (by omega)]; exact l8⟩
  by_cases ek : k = n + 1
  · subst ek
    rw [upL_self]
    exact ⟨hH, hB⟩
  · have hkn : k ≤ n := by omega
    rw [up_pre hkn]
    obtain ⟨b1, b2⟩ := a4 k q1 hkn
    refine ⟨mH_congr (S := zu S 1038 0 0 (nI (gM (lg, n, fo, im, dm, bk, pl, r, w, e, q)))) (fun f j hf3 hj => by rw [hk _ _ _ (by omega)]; exact hf' f 0 j (by omega)) b1, ?_⟩
    refine mB_lg (lg := lg) q1 (fun m z1 z2 => up_pre (by omega)) ?_
    exact mB_row (S := zu S 1038 0 0 (nI (gM (lg, n, fo, im, dm, bk, pl, r, w, e, q)))) q1 hkn (pleg_f hpl q1 hkn) (fun f j hf3 hj => by rw [hk _ _ _ (by omega)]; exact hf' f 0 j (by omega)) (fun j hj => by rw [hk _ _ _ (by omega)]; exact hf' 1664 0 j (by omega)) b2
section RA
variable {S : zS} {d ck m : Nat} {A : aSt}
theorem lkN.size (h : lkN S ck m A) : S 1025 0 0 = nI (gN A) := by
  have h1 := h.2.log.1
  rw [zu_f _ _ (by decide)] at h1
  exact h1
theorem lkN.fm (h : lkN S ck m A) : S 1036 0 0 = nI (fmts (gL A) (gN A)) := by
  have h1 := h.2.log.2.2.1
  rw [zu_f _ _ (by decide)] at h1
  exact h1
-- append: the row is made
theorem r88 {n K p : Nat} (h : S 1025 0 0 = nI n) (hn : n < 1200) (hK : K < 128) (hp : p < 128) : zwp 88 (0, zent 88 [.inr (some (16, 0)), .inl (nI K), .inl (nI p)], [], (S, d)) (fun o t => ∃ S', o = .inl (some (.inl (nI (n + 1)))) ∧ t = (S', d) ∧ (∀ f i j, ¬ (f = 1025 ∨ ((f = 1088 ∨ f = 1152 ∨ f = 1216 ∨ f = 1536 ∨ f = 1600) ∧ j = n + 1)) → S' f i j = S f i j) ∧ S' 1025 0 0 = nI (n + 1) ∧ S' 1088 0 (n + 1) = nI K ∧ S' 1152 0 (n + 1) = nI p ∧ S' 1216 0 (n + 1) = nI 0 ∧ S' 1536 0 (n + 1) = nI 0 ∧ S' 1600 0 (n + 1) = nI 0) := by
  have e : S 1025 0 0 + nI 1 = nI (n + 1) := by rw [h, nI_add]
  refine w88_0 ⟨n + 1, e, by omega, n + 1, e, by omega, n + 1, e, by omega, n + 1, e, by omega, n + 1, e, by omega, ?_⟩
  rw [e, narb hK, narb hp, nars0]
  refine ⟨_, rfl, rfl, fun f i j hf => ?_, ?_, ?_, ?_, ?_, ?_, ?_⟩
  · have z : ∀ f0, (f0 = 1088 ∨ f0 = 1152 ∨ f0 = 1216 ∨ f0 = 1536 ∨ f0 = 1600) → ¬ (f = f0 ∧ i = 0 ∧ j = n + 1) := fun f0 h0 h1 => hf (Or.inr ⟨by rw [h1.1]; exact h0, h1.2.2⟩)
    unfold zu
    rw [if_neg (z 1600 (by simp)), if_neg (z 1536 (by simp)), if_neg (z 1216 (by simp)), if_neg (z 1152 (by simp)), if_neg (z 1088 (by simp)), if_neg (fun h1 => hf (Or.inl h1.1))]
  · rw [zu_f _ _ (by decide), zu_f _ _ (by decide), zu_f _ _ (by decide), zu_f _ _ (by decide), zu_f _ _ (by decide), zu_self]
  · rw [zu_f _ _ (by decide), zu_f _ _ (by decide), zu_f _ _ (by decide), zu_f _ _ (by decide), zu_self]
  · rw [zu_f _ _ (by decide), zu_f _ _ (by decide), zu_f _ _ (by decide), zu_self]
  · rw [zu_f _ _ (by decide), zu_f _ _ (by decide), zu_self]
  · rw [zu_f _ _ (by decide), zu_self]
  · exact zu_self _ _ _ _ _
end RA
