theorem wcon_two {a b : Nat} {t : Int32} (ha : a < 64) (hb : b < 64) : wcon (true, [a, b], [t]) := by
  refine ⟨?_, ?_, ?_, ?_⟩
  · simp
  · intro h hh
    simp only [List.mem_cons, List.not_mem_nil, or_false] at hh
    rcases hh with rfl | rfl
    · exact ha
    · exact hb
  · simp
  · intro _
    simp
theorem len_two {a b : Nat} {t : Int32} : ((true, [a, b], [t]) : aCon).2.1.length = 2 := by simp
theorem lrB_cut {S : zS} {n p L : Nat} : lrB S n (4, p, 0, 0, L, 0, 0, false, 0, (false, [], [])) := by
  unfold lrB rK
  trivial
