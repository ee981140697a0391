def gM (A : aSt) : Nat := pgs (gL A) (gN A)
theorem wA.n {A : aSt} (h : wA A) : gN A ≤ 1144 := by
  obtain ⟨lg, n, fo, im, dm, bk, pl, r, w, e, q⟩ := A
  exact h.1
