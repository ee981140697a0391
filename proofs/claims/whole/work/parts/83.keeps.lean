/-! What the model keeps: forced is whole, records come in groups, each is legal when it comes. -/
def grp (A : aSt) : Prop := ∀ k j, 1 ≤ k → k ≤ gN A → 1 ≤ j → j ≤ gN A → k ≤ rL (gL A j) → rL (gL A k) ≤ rL (gL A j)
-- inside a group that ends at L
def inS (A : aSt) (L : Nat) : Prop := (∀ k, 1 ≤ k → k ≤ gN A → rL (gL A k) ≤ gN A ∨ rL (gL A k) = L) ∧ (gFo A ≤ gN A ∨ gFo A = L)
-- between groups
def wln (A : aSt) : Prop := (∀ k, 1 ≤ k → k ≤ gN A → rL (gL A k) ≤ gN A) ∧ gFo A ≤ gN A
def wM (A : aSt) : Prop := wA A ∧ whl A ∧ grp A ∧ pleg (gL A) (gN A) ∧ pord (gL A) (gN A)
theorem wln.s {A : aSt} (h : wln A) (L : Nat) : inS A L := ⟨fun k h1 h2 => Or.inl (h.1 k h1 h2), Or.inl h.2⟩
theorem fo_win {A : aSt} {o : Option Nat} : gFo (aWin A o) = gFo A ∨ ∃ m, 1 ≤ m ∧ m ≤ gN A ∧ gFo (aWin A o) = rL (gL A m) := by
  unfold aWin
  split
  · exact Or.inl rfl
  · rename_i p
    split
    · obtain ⟨lg, n, fo, im, dm, bk, pl, r, w, e, q⟩ := A
      have hl := lat_le lg p n
      show aForce lg (lat lg p n) fo = fo ∨ ∃ m, 1 ≤ m ∧ m ≤ n ∧ aForce lg (lat lg p n) fo = rL (lg m)
      unfold aForce
      split
      · rename_i h
        exact Or.inr ⟨lat lg p n, by omega, hl, rfl⟩
      · exact Or.inl rfl
    · exact Or.inl rfl
theorem fo_fix {A : aSt} {p : Nat} : gFo (aFix A p) = gFo (aWin A (aLeave p (gP A))) := by
  unfold aFix
  split
  · generalize aWin A (aLeave p (gP A)) = B
    obtain ⟨lg, n, fo, im, dm, bk, pl, r, w, e, q⟩ := B
    rfl
  · generalize aWin A (aLeave p (gP A)) = B
    obtain ⟨lg, n, fo, im, dm, bk, pl, r, w, e, q⟩ := B
    rfl
theorem fo_fixN {A : aSt} {p : Nat} : gFo (aFixN A p) = gFo (aWin A (aLeave p (gP A))) := by
  unfold aFixN
  generalize aWin A (aLeave p (gP A)) = B
  obtain ⟨lg, n, fo, im, dm, bk, pl, r, w, e, q⟩ := B
  rfl
-- a state with the same log whose forced is the old one or the last of a record
theorem wh_same {A B : aSt} (hL : gL B = gL A) (hN : gN B = gN A) (hf : gFo B = gFo A ∨ ∃ m, 1 ≤ m ∧ m ≤ gN A ∧ gFo B = rL (gL A m)) (h : whl A) (hg : grp A) : whl B := by
  intro k h1 h2 h3
  rw [hL]
  rw [hN] at h2
  rcases hf with hf | ⟨m, m1, m2, hf⟩
  · rw [hf] at h3 ⊢
    exact h k h1 h2 h3
  · rw [hf] at h3 ⊢
    exact hg k m h1 h2 m1 m2 h3
theorem in_same {A B : aSt} {L : Nat} (hL : gL B = gL A) (hN : gN B = gN A) (hf : gFo B = gFo A ∨ ∃ m, 1 ≤ m ∧ m ≤ gN A ∧ gFo B = rL (gL A m)) (h : inS A L) : inS B L := by
  refine ⟨fun k h1 h2 => ?_, ?_⟩
  · rw [hL, hN]
    rw [hN] at h2
    exact h.1 k h1 h2
  · rw [hN]
    rcases hf with hf | ⟨m, m1, m2, hf⟩
    · rw [hf]
      exact h.2
    · rw [hf]
      exact h.1 m m1 m2
theorem wl_same {A B : aSt} (hL : gL B = gL A) (hN : gN B = gN A) (hf : gFo B = gFo A ∨ ∃ m, 1 ≤ m ∧ m ≤ gN A ∧ gFo B = rL (gL A m)) (h : wln A) : wln B := by
  refine ⟨fun k h1 h2 => ?_, ?_⟩
  · rw [hL, hN]
    rw [hN] at h2
    exact h.1 k h1 h2
  · rw [hN]
    rcases hf with hf | ⟨m, m1, m2, hf⟩
    · rw [hf]
      exact h.2
    · rw [hf]
      exact h.1 m m1 m2
theorem wM_same {A B : aSt} (hL : gL B = gL A) (hN : gN B = gN A) (hf : gFo B = gFo A ∨ ∃ m, 1 ≤ m ∧ m ≤ gN A ∧ gFo B = rL (gL A m)) (hw : wA B) (h : wM A) : wM B := by
  refine ⟨hw, wh_same hL hN hf h.2.1 h.2.2.1, ?_, ?_, ?_⟩
  · unfold grp
    rw [hL, hN]
    exact h.2.2.1
  · rw [hL, hN]
    exact h.2.2.2.1
  · rw [hL, hN]
    exact h.2.2.2.2
theorem f_fix {A : aSt} {p : Nat} : gFo (aFix A p) = gFo A ∨ ∃ m, 1 ≤ m ∧ m ≤ gN A ∧ gFo (aFix A p) = rL (gL A m) := by
  rw [fo_fix]
  exact fo_win
theorem f_fixN {A : aSt} {p : Nat} : gFo (aFixN A p) = gFo A ∨ ∃ m, 1 ≤ m ∧ m ≤ gN A ∧ gFo (aFixN A p) = rL (gL A m) := by
  rw [fo_fixN]
  exact fo_win
theorem wM_fix {A : aSt} {p : Nat} (h : wM A) (hp : p < 40) : wM (aFix A p) := wM_same log_fix.1 log_fix.2 f_fix (wA_fix h.1 hp) h
theorem wM_fixN {A : aSt} {p : Nat} (h : wM A) (hp : p < 40) : wM (aFixN A p) := wM_same log_fixN.1 log_fixN.2 f_fixN (wA_fixN h.1 hp) h
theorem inS_fix {A : aSt} {p L : Nat} (h : inS A L) : inS (aFix A p) L := in_same log_fix.1 log_fix.2 f_fix h
theorem inS_fixN {A : aSt} {p L : Nat} (h : inS A L) : inS (aFixN A p) L := in_same log_fixN.1 log_fixN.2 f_fixN h
theorem wln_fix {A : aSt} {p : Nat} (h : wln A) : wln (aFix A p) := wl_same log_fix.1 log_fix.2 f_fix h
theorem pleg_add {lg : Nat → aRec} {n : Nat} {x : aRec} (h : pleg lg n) (h1 : wrec x (n + 1)) (h2 : rK x < 6 → legal x (con lg (rP x) n)) : pleg (upL lg (n + 1) x) (n + 1) := by
  intro k hk
  by_cases e : k = n
  · subst e
    rw [upL_self, con_congr (lg := lg) (fun i q1 q2 => up_pre q2)]
    exact ⟨h1, h2⟩
  · rw [up_pre (by omega), con_congr (lg := lg) (fun i q1 q2 => up_pre (by omega))]
    exact h k (by omega)
theorem pord_add {lg : Nat → aRec} {n : Nat} {x : aRec} (h : pord lg n) (h1 : rK x = 2 → (con lg (rP x) n).2.1[lpos (rY x) (con lg (rP x) n).2.1]? = some (rY x)) : pord (upL lg (n + 1) x) (n + 1) := by
  intro k hk
  by_cases e : k = n
  · subst e
    rw [upL_self, con_congr (lg := lg) (fun i q1 q2 => up_pre q2)]
    exact h1
  · rw [up_pre (by omega), con_congr (lg := lg) (fun i q1 q2 => up_pre (by omega))]
    exact h k (by omega)
-- a record of a group that ends at L
theorem wM_add {A : aSt} {x : aRec} {L : Nat} (h : wM A) (hi : inS A L) (hx : okr A x) (hL : rL x = L) (hL1 : gN A + 1 ≤ L) (hn : gN A < 1144) (hpo : rK x = 2 → (gC A (rP x)).2.1[lpos (rY x) (gC A (rP x)).2.1]? = some (rY x)) : wM (aAdd A x) := by
  refine ⟨wA_add h.1 hx hn, fun k h1 h2 h3 => ?_, fun k j h1 h2 h3 h4 h5 => ?_, ?_, ?_⟩
  · rw [log_add.2] at h2
    have ef : gFo (aAdd A x) = gFo A := rfl
    rw [ef] at h3 ⊢
    rw [log_add.1]
    by_cases e : k = gN A + 1
    · rw [e, upL_self, hL]
      rcases hi.2 with z | z <;> omega
    · rw [up_pre (by omega)]
      exact h.2.1 k h1 (by omega) h3
  · rw [log_add.2] at h2 h4
    rw [log_add.1] at h5 ⊢
    by_cases e : k = gN A + 1
    · rw [e] at h5 ⊢
      rw [upL_self, hL]
      by_cases e2 : j = gN A + 1
      · rw [e2, upL_self, hL]
        exact Nat.le_refl _
      · rw [up_pre (by omega)] at h5 ⊢
        rcases hi.1 j h3 (by omega) with z | z <;> omega
    · rw [up_pre (by omega)]
      by_cases e2 : j = gN A + 1
      · rw [e2, upL_self, hL]
        rcases hi.1 k h1 (by omega) with z | z <;> omega
      · rw [up_pre (by omega)] at h5 ⊢
        exact h.2.2.1 k j h1 (by omega) h3 (by omega) h5
  · exact pleg_add h.2.2.2.1 hx.1 hx.2
  · exact pord_add h.2.2.2.2 hpo
theorem inS_add {A : aSt} {x : aRec} {L : Nat} (hi : inS A L) (hL : rL x = L) : inS (aAdd A x) L := by
  refine ⟨fun k h1 h2 => ?_, ?_⟩
  · rw [log_add.2] at h2 ⊢
    rw [log_add.1]
    by_cases e : k = gN A + 1
    · rw [e, upL_self]
      exact Or.inr hL
    · rw [up_pre (by omega)]
      rcases hi.1 k h1 (by omega) with z | z
      · exact Or.inl (by omega)
      · exact Or.inr z
  · rw [log_add.2]
    have ef : gFo (aAdd A x) = gFo A := rfl
    rw [ef]
    rcases hi.2 with z | z
    · exact Or.inl (by omega)
    · exact Or.inr z
theorem wln_add {A : aSt} {x : aRec} (hi : inS A (gN A + 1)) (hL : rL x = gN A + 1) : wln (aAdd A x) := by
  have h := inS_add hi hL
  refine ⟨fun k h1 h2 => ?_, ?_⟩
  · rcases h.1 k h1 h2 with z | z
    · exact z
    · rw [z]
      exact Nat.le_refl _
  · rcases h.2 with z | z
    · exact z
    · rw [z]
      exact Nat.le_refl _
