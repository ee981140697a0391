theorem zdq_in {pc : Nat} {i : Instr} {len : Nat} {l : List (Nat × (Instr × Nat))} {b : ByteArray} (h : l.all (fun q => decide (decode b q.1 = .ok q.2)) = true) (hm : (pc, (i, len)) ∈ l) : decode b pc = .ok (i, len) := by
  rw [List.all_eq_true] at h
  have h4 := h _ hm
  simpa only [decide_eq_true_eq] using h4
theorem zdq_ok {m : Nat} (h : m < 123) : zdq m = true := by
  by_cases h1 : m < 41
  · exact List.all_eq_true.mp zdec0 m (List.mem_range.mpr h1)
  · by_cases h3 : m < 82
    · have h2 := List.all_eq_true.mp zdec1 (m - 41) (List.mem_range.mpr (by omega))
      have e : 41 + (m - 41) = m := by omega
      exact e ▸ h2
    · have h2 := List.all_eq_true.mp zdec2 (m - 82) (List.mem_range.mpr (by omega))
      have e : 82 + (m - 82) = m := by omega
      exact e ▸ h2
def zkq (m : Nat) : Bool := (zinsL.getD m []).all (fun q => zchk m q.1 q.2.1 q.2.2)
theorem zkall : (List.range 123).all (fun m => zkq m) = true := by decide +kernel
theorem zkq_in {pc : Nat} {i : Instr} {len : Nat} {l : List (Nat × (Instr × Nat))} {f : Nat → Instr → Nat → Bool} (h : l.all (fun q => f q.1 q.2.1 q.2.2) = true) (hm : (pc, (i, len)) ∈ l) : f pc i len = true := (List.all_eq_true.mp h) _ hm
theorem zins_ok {m pc : Nat} {i : Instr} {len : Nat} (h : zins m pc = some (i, len)) : m < 123 ∧ decode (zbb m) pc = .ok (i, len) ∧ zchk m pc i len = true := by
  have hmem : (pc, (i, len)) ∈ zinsL.getD m [] := zlook_mem h
  have hm : m < 123 := by
    by_cases hm : m < 123
    · exact hm
    · exfalso
      rw [List.getD_eq_getElem?_getD, List.getElem?_eq_none (by show 123 ≤ m; omega)] at hmem
      cases hmem
  exact ⟨hm, zdq_in (zdq_ok hm) hmem, zkq_in (f := zchk m) (List.all_eq_true.mp zkall m (List.mem_range.mpr hm)) hmem⟩
