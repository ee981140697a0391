/-! The reference: formatRoot, split. -/
section RR
variable {S : zS} {d ck m : Nat} {A : aSt}
theorem r90 {a b L : Nat} {s : Int32} (hl : lkM S ck A) (hw : wM A) (hck : ck + 1 < 2 ^ 31) (hn : gN A < 1144) (hL1 : gN A + 1 ≤ L) (hL : L < 2000) (hfm : fmts (gL A) (gN A) < 100) : zwp 90 (0, zent 90 [.inr (some (16, 0)), .inl (nI a), .inl (nI b), .inl s, .inl (nI L)], [], (S, d)) (fun o t => ∃ S', o = .inl none ∧ t = (S', d) ∧ zfr S S' pmm ∧ lkM S' (ck + 1) (aAdd (aFix A 0) (aFmt 0 L (true, [a, b], [s])))) := by
  refine w90_0 (zwp_mono (r86 (p := 0) hl hw.1 hw.2.1 hck (by decide)) (fun o t h => ?_))
  obtain ⟨S1, rfl, rfl, f1, g1⟩ := h
  have hwB := wM_fix (p := 0) hw (by decide)
  have hNB : gN (aFix A 0) = gN A := log_fix.2
  have hLB : gL (aFix A 0) = gL A := log_fix.1
  rw [← hNB] at hn hL1 hfm
  rw [← hLB] at hfm
  generalize aFix A 0 = B at g1 hwB hn hL1 hfm ⊢
  have hN := g1.n
  have h36 := hN.fm
  have hpl := hwB.2.2.2.1
  refine w90_5 (zwp_mono (r88 (K := 3) (p := 0) hN.size (by omega) (by decide) (by decide)) (fun o t h => ?_))
  obtain ⟨S2, rfl, rfl, f2, u25, u88, u52, u16, u36, u00⟩ := h
  have s36 : S2 1036 0 0 = nI (fmts (gL B) (gN B)) := by
    rw [f2 _ _ _ (by omega)]
    exact h36
  have e10 : nI 10 * S2 1036 0 0 = nI (10 * fmts (gL B) (gN B)) := by rw [s36, nI_mul]
  refine w90_11 ⟨gN B + 1, rfl, by omega, gN B + 1, rfl, by omega, 10 * fmts (gL B) (gN B), e10, by omega, 10 * fmts (gL B) (gN B) + 1, by rw [e10, nI_add], by omega, 10 * fmts (gL B) (gN B) + 2, by rw [e10, nI_add], by omega, 10 * fmts (gL B) (gN B) + 3, by rw [e10, nI_add], by omega, 10 * fmts (gL B) (gN B) + 6, by rw [e10, nI_add], by omega, ?_⟩
  rw [s36, nars (by omega), nI_add]
  generalize hF : fmts (gL B) (gN B) = F at *
  have hfmt : fmts (upL (gL B) (gN B + 1) (aFmt 0 L (true, [a, b], [s]))) (gN B + 1) = F + 1 := by
    rw [fmts, upL_self, if_pos (show rK (aFmt 0 L (true, [a, b], [s])) = 3 from rfl), fmts_congr (lg := gL B) (fun i z1 z2 => up_pre z2), hF]
  refine ⟨_, rfl, rfl, fun f i j h => ?_, lkM_add hN hpl (fun f i j h => ?_) ?_ ?_ ?_ ?_ ?_⟩
  · have h' : ¬ (f = 1025 ∨ f = 1026 ∨ f = 1036 ∨ f = 1038 ∨ (1043 ≤ f ∧ f ≤ 1047) ∨ (1088 ≤ f ∧ f ≤ 1920)) := h
    rw [zu_f _ _ (by omega), zu_f _ _ (by omega), zu_f _ _ (by omega), zu_f _ _ (by omega), zu_f _ _ (by omega), zu_f _ _ (by omega), zu_f _ _ (by omega), zu_f _ _ (by omega), f2 f i j (by omega)]
    exact f1 f i j h
  · rw [hF] at h
    have z1 : ¬ (f = 1036 ∧ i = 0 ∧ j = 0) := by omega
    have z2 : ∀ x, 10 * F ≤ x → ¬ (f = 1664 ∧ i = 0 ∧ j = x) := fun x hx => by omega
    have z3 : ¬ (f = 1344 ∧ i = 0 ∧ j = gN B + 1) := by omega
    have z4 : ¬ (f = 1600 ∧ i = 0 ∧ j = gN B + 1) := by omega
    unfold zu
    rw [if_neg z1, if_neg (z2 _ (by omega)), if_neg (z2 _ (by omega)), if_neg (z2 _ (by omega)), if_neg (z2 _ (by omega)), if_neg (z2 _ (by omega)), if_neg z3, if_neg z4]
    exact f2 f i j (by omega)
  · rw [zu_f _ _ (by decide), zu_f _ _ (by decide), zu_f _ _ (by decide), zu_f _ _ (by decide), zu_f _ _ (by decide), zu_f _ _ (by decide), zu_f _ _ (by decide), zu_f _ _ (by decide)]
    exact u25
  · refine ⟨?_, fun _ => ?_, ?_, ?_, L, ?_, hL, ?_⟩
    · rw [zu_f _ _ (by decide), zu_f _ _ (by decide), zu_f _ _ (by decide), zu_f _ _ (by decide), zu_f _ _ (by decide), zu_f _ _ (by decide), zu_f _ _ (by decide), zu_f _ _ (by decide)]
      exact u88
    · rw [zu_f _ _ (by decide), zu_f _ _ (by decide), zu_f _ _ (by decide), zu_f _ _ (by decide), zu_f _ _ (by decide), zu_f _ _ (by decide), zu_f _ _ (by decide), zu_f _ _ (by decide)]
      exact u52
    · rw [zu_f _ _ (by decide), zu_f _ _ (by decide), zu_f _ _ (by decide), zu_f _ _ (by decide), zu_f _ _ (by decide), zu_f _ _ (by decide), zu_f _ _ (by decide), zu_f _ _ (by decide)]
      exact u16
    · rw [zu_f _ _ (by decide), zu_f _ _ (by decide), zu_f _ _ (by decide), zu_f _ _ (by decide), zu_f _ _ (by decide), zu_f _ _ (by decide), zu_f _ _ (by decide), zu_f _ _ (by decide)]
      exact u36
    · rw [zu_f _ _ (by decide), zu_f _ _ (by decide), zu_f _ _ (by decide), zu_f _ _ (by decide), zu_f _ _ (by decide), zu_f _ _ (by decide), zu_f _ _ (by decide), zu_self]
    · show (if gN B + 1 < L then L else gN B + 1) = L
      split <;> omega
  · unfold mB
    rw [upL_self]
    refine (?_ : _ ∧ mfm _ _ (true, [a, b], [s]))
    show _ = nI (fmts (upL (gL B) (gN B + 1) (aFmt 0 L (true, [a, b], [s]))) (gN B)) ∧ mfm _ (fmts (upL (gL B) (gN B + 1) (aFmt 0 L (true, [a, b], [s]))) (gN B)) (true, [a, b], [s])
    rw [fmts_congr (lg := gL B) (fun i z1 z2 => up_pre z2), hF]
    refine ⟨?_, ?_, ?_, fun i x hx => ?_, fun i x hx => ?_⟩
    · rw [zu_f _ _ (by decide), zu_f _ _ (by decide), zu_f _ _ (by decide), zu_f _ _ (by decide), zu_f _ _ (by decide), zu_f _ _ (by decide), zu_self]
    · rw [zu_f _ _ (by decide), zu_j _ _ (by omega), zu_j _ _ (by omega), zu_j _ _ (by omega), zu_j _ _ (by omega), zu_self]
      rfl
    · rw [zu_f _ _ (by decide), zu_j _ _ (by omega), zu_j _ _ (by omega), zu_j _ _ (by omega), zu_self]
      rfl
    · have hi : i < 2 := (List.getElem?_eq_some_iff.mp hx).1
      have hi : i = 0 ∨ i = 1 := by omega
      rcases hi with rfl | rfl
      · cases hx
        rw [zu_f _ _ (by decide), zu_j _ _ (by omega), zu_j _ _ (by omega), zu_self]
      · cases hx
        rw [zu_f _ _ (by decide), zu_j _ _ (by omega), zu_self]
    · have hi : i < 1 := (List.getElem?_eq_some_iff.mp hx).1
      have hi : i = 0 := by omega
      subst hi
      cases hx
      rw [zu_f _ _ (by decide), zu_self]
  · rw [zu_self, hfmt]
  · rw [zu_f _ _ (by decide), zu_f _ _ (by decide), zu_f _ _ (by decide), zu_f _ _ (by decide), zu_f _ _ (by decide), zu_f _ _ (by decide), zu_f _ _ (by decide), zu_f _ _ (by decide), f2 _ _ _ (by omega), g1.m, pgs, upL_self, if_pos (show rK (aFmt 0 L (true, [a, b], [s])) < 6 by show 3 < 6; decide), pgs_congr (lg := gL B) (fun i z1 z2 => up_pre z2)]
    show nI (gM B) = nI (max (gM B) (0 + 1))
    have hp1 : 1 ≤ gM B := pgs_pos _
    rw [Nat.max_eq_left (by omega)]
end RR
-- pages that are not made yet
def frs (A : aSt) : Prop := ∀ p, gM A ≤ p → p ∉ gP A ∧ gIm A p = 0 ∧ gDm A p = false
theorem touch_in {k x : Nat} {l : List Nat} (h : x ∈ aTouch k l) : x = k ∨ x ∈ l := by
  unfold aTouch at h
  rcases List.mem_append.mp h with h | h
  · right
    unfold aOut at h
    split at h
    · exact List.mem_of_mem_eraseIdx h
    · split at h
      · exact List.mem_of_mem_eraseIdx h
      · exact h
  · simp only [List.mem_cons, List.not_mem_nil, or_false] at h
    exact Or.inl h
theorem leave_in {k x : Nat} {l : List Nat} (h : aLeave k l = some x) : x ∈ l := by
  unfold aLeave at h
  split at h
  · cases h
  · exact List.mem_of_getElem? h
theorem fixN_at {A : aSt} {q p : Nat} (hp : p ∉ gP A) : gIm (aFixN A q) p = gIm A p ∧ gDm (aFixN A q) p = gDm A p ∧ gP (aFixN A q) = aTouch q (gP A) := by
  have h := win_at (A := A) (o := aLeave q (gP A)) (p := p) (fun z => hp (leave_in z))
  unfold aFixN
  generalize aWin A (aLeave q (gP A)) = B at h ⊢
  obtain ⟨lg, n, fo, im, dm, bk, pl, r, w, e, qq⟩ := B
  exact ⟨h.1, h.2.1, rfl⟩
theorem fix_at {A : aSt} {q p : Nat} (hp : p ∉ gP A) : gIm (aFix A q) p = gIm A p ∧ gDm (aFix A q) p = gDm A p ∧ gP (aFix A q) = aTouch q (gP A) := by
  have h := win_at (A := A) (o := aLeave q (gP A)) (p := p) (fun z => hp (leave_in z))
  unfold aFix
  split
  · generalize aWin A (aLeave q (gP A)) = B at h ⊢
    obtain ⟨lg, n, fo, im, dm, bk, pl, r, w, e, qq⟩ := B
    exact ⟨h.1, h.2.1, rfl⟩
  · generalize aWin A (aLeave q (gP A)) = B at h ⊢
    obtain ⟨lg, n, fo, im, dm, bk, pl, r, w, e, qq⟩ := B
    exact ⟨h.1, h.2.1, rfl⟩
theorem gM_addE {A : aSt} {x : aRec} (h : ¬ rK x < 6) : gM (aAdd A x) = gM A := by
  unfold gM
  rw [log_add.1, log_add.2, pgs, upL_self, if_neg h, pgs_congr (lg := gL A) (fun i z1 z2 => up_pre z2)]
theorem frs_fix {A : aSt} {q : Nat} (h : frs A) (hq : q < gM A) : frs (aFix A q) := by
  intro p hp
  rw [gM_fix] at hp
  obtain ⟨h1, h2, h3⟩ := h p hp
  obtain ⟨g1, g2, g3⟩ := fix_at (q := q) h1
  refine ⟨fun z => ?_, g1.trans h2, g2.trans h3⟩
  rw [g3] at z
  rcases touch_in z with z | z
  · omega
  · exact h1 z
theorem frs_add {A : aSt} {x : aRec} (h : frs A) : frs (aAdd A x) := by
  intro p hp
  have hm : gM A ≤ gM (aAdd A x) := by
    by_cases hx : rK x < 6
    · rw [gM_add hx]
      exact Nat.le_max_left _ _
    · rw [gM_addE hx]
      exact Nat.le_refl _
  exact h p (Nat.le_trans hm hp)
theorem frs_new {A : aSt} {x : aRec} (h : frs A) (hx : rK x < 6) (hp : rP x = gM A) : frs (aAdd (aFixN A (gM A)) x) := by
  intro p hp2
  rw [gM_add hx, gM_fixN, hp] at hp2
  have hp3 : gM A + 1 ≤ p := Nat.le_trans (Nat.le_max_right _ _) hp2
  obtain ⟨h1, h2, h3⟩ := h p (by omega)
  obtain ⟨g1, g2, g3⟩ := fixN_at (q := gM A) h1
  refine ⟨fun z => ?_, g1.trans h2, g2.trans h3⟩
  have z : p ∈ gP (aFixN A (gM A)) := z
  rw [g3] at z
  rcases touch_in z with z | z
  · omega
  · exact h1 z
