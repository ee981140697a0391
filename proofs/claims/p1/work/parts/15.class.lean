-- 39 PageKeeper$Log.add
theorem w39_0 {S : zS} {d : Nat} {Q : zO → zT → Prop} {x1 : Int32} {x2 : Int32} {x3 : Int32} {x4 : Int32} (h : ((nI 1144) ≤ (S 65 0 0) → zwp 39 (20, [some (.inr (some (1, 0))), some (.inl x1), some (.inl x2), some (.inl x3), some (.inl x4), none], [], (S, d)) Q) ∧ (¬ (nI 1144) ≤ (S 65 0 0) → zwp 39 (20, [some (.inr (some (1, 0))), some (.inl x1), some (.inl x2), some (.inl x3), some (.inl x4), none], [], (zu S 65 0 0 ((S 65 0 0) + (nI 1)), d)) Q)) : zwp 39 (0, [some (.inr (some (1, 0))), some (.inl x1), some (.inl x2), some (.inl x3), some (.inl x4), none], [], (S, d)) Q := by
  refine zwp_blk 3 (c' := (7, [some (.inr (some (1, 0))), some (.inl x1), some (.inl x2), some (.inl x3), some (.inl x4), none], [.inl (nI 1144), .inl (S 65 0 0)], (S, d))) rfl ?_
  refine zwp_br rfl (fun hb => ?_) (fun hb => ?_)
  · show zwp 39 (20, [some (.inr (some (1, 0))), some (.inl x1), some (.inl x2), some (.inl x3), some (.inl x4), none], [], (S, d)) Q
    replace h := h.1 (of_decide_eq_true hb)
    exact h
  · show zwp 39 (10, [some (.inr (some (1, 0))), some (.inl x1), some (.inl x2), some (.inl x3), some (.inl x4), none], [], (S, d)) Q
    replace h := h.2 (of_decide_eq_false hb)
    refine zwp_blk 6 (c' := (20, [some (.inr (some (1, 0))), some (.inl x1), some (.inl x2), some (.inl x3), some (.inl x4), none], [], (zu S 65 0 0 ((S 65 0 0) + (nI 1)), d))) rfl ?_
    exact h
theorem w39_20 {S : zS} {d : Nat} {Q : zO → zT → Prop} {x1 : Int32} {x2 : Int32} {x3 : Int32} {x4 : Int32} (h : ∃ j1 : Nat, S 65 0 0 = nI j1 ∧ j1 < 1145 ∧ ((1 ≤ j1 ∧ j1 ≤ d → zwp 39 (48, [some (.inr (some (1, 0))), some (.inl x1), some (.inl x2), some (.inl x3), some (.inl x4), none], [], (S, d)) Q) ∧ (¬ (1 ≤ j1 ∧ j1 ≤ d) → (S 65 0 0 = nI (d + 1) ∧ d + 1 < 1145) ∧ (zwp 39 (48, [some (.inr (some (1, 0))), some (.inl x1), some (.inl x2), some (.inl x3), some (.inl x4), none], [], (zrow S (d + 1), d + 1)) Q)))) : zwp 39 (20, [some (.inr (some (1, 0))), some (.inl x1), some (.inl x2), some (.inl x3), some (.inl x4), none], [], (S, d)) Q := by
  refine zwp_blk 4 (c' := (28, [some (.inr (some (1, 0))), some (.inl x1), some (.inl x2), some (.inl x3), some (.inl x4), none], [.inl (S 65 0 0), .inr (some (2, 0))], (S, d))) rfl ?_
  obtain ⟨j1, ej1, lj1, h⟩ := h
  by_cases hz : 1 ≤ j1 ∧ j1 ≤ d
  · replace h := h.1 hz
    refine zwp_aldx (n := 1145) (k := 3) (pc' := 29) (ls := [some (.inr (some (1, 0))), some (.inl x1), some (.inl x2), some (.inl x3), some (.inl x4), none]) (r := []) (t := (S, d)) rfl ej1 lj1 (by decide) (zok_3 hz) ?_
    refine zwp_blk 1 (c' := (48, [some (.inr (some (1, 0))), some (.inl x1), some (.inl x2), some (.inl x3), some (.inl x4), none], [], (S, d))) rfl ?_
    exact h
  · replace h := h.2 hz
    refine zwp_aldn (n := 1145) (k := 3) (pc' := 29) (ls := [some (.inr (some (1, 0))), some (.inl x1), some (.inl x2), some (.inl x3), some (.inl x4), none]) (r := []) (t := (S, d)) rfl ej1 lj1 (by decide) (zok_n3 hz) ?_
    refine zwp_blk 1 (c' := (32, [some (.inr (some (1, 0))), some (.inl x1), some (.inl x2), some (.inl x3), some (.inl x4), none], [], (S, d))) rfl ?_
    refine zwp_blk 4 (c' := (40, [some (.inr (some (1, 0))), some (.inl x1), some (.inl x2), some (.inl x3), some (.inl x4), none], [.inl (S 65 0 0), .inr (some (2, 0))], (S, d))) rfl ?_
    refine zwp_grd (c' := (48, [some (.inr (some (1, 0))), some (.inl x1), some (.inl x2), some (.inl x3), some (.inl x4), none], [], (zrow S (d + 1), d + 1))) rfl (decide_eq_true h.1) ?_
    replace h := h.2
    exact h
theorem w39_48 {S : zS} {d : Nat} {Q : zO → zT → Prop} {x1 : Int32} {x2 : Int32} {x3 : Int32} {x4 : Int32} (h : ∃ j1 : Nat, S 65 0 0 = nI j1 ∧ j1 < 1145 ∧ (1 ≤ j1 ∧ j1 ≤ d) ∧ (((S 67 0 0) ≤ (S 65 0 0) → Q (.inl (some (.inr (some (3, j1))))) (zu (zu (zu (zu (zu (zu (zu (zu S 192 j1 0 (S 65 0 0)) 193 j1 0 x1) 194 j1 0 x2) 195 j1 0 x3) 196 j1 0 x4) 197 j1 0 (nI 0)) 198 j1 0 (nI 0)) 199 j1 0 (S 65 0 0), d)) ∧ (¬ (S 67 0 0) ≤ (S 65 0 0) → Q (.inl (some (.inr (some (3, j1))))) (zu (zu (zu (zu (zu (zu (zu (zu S 192 j1 0 (S 65 0 0)) 193 j1 0 x1) 194 j1 0 x2) 195 j1 0 x3) 196 j1 0 x4) 197 j1 0 (nI 0)) 198 j1 0 (nI 0)) 199 j1 0 (S 67 0 0), d)))) : zwp 39 (48, [some (.inr (some (1, 0))), some (.inl x1), some (.inl x2), some (.inl x3), some (.inl x4), none], [], (S, d)) Q := by
  refine zwp_blk 4 (c' := (56, [some (.inr (some (1, 0))), some (.inl x1), some (.inl x2), some (.inl x3), some (.inl x4), none], [.inl (S 65 0 0), .inr (some (2, 0))], (S, d))) rfl ?_
  obtain ⟨j1, ej1, lj1, h⟩ := h
  refine zwp_aldx (n := 1145) (k := 3) (pc' := 57) (ls := [some (.inr (some (1, 0))), some (.inl x1), some (.inl x2), some (.inl x3), some (.inl x4), none]) (r := []) (t := (S, d)) rfl ej1 lj1 (by decide) (zok_3 h.1) ?_
  replace h := h.2
  refine zwp_blk 22 (c' := (102, [some (.inr (some (1, 0))), some (.inl x1), some (.inl x2), some (.inl x3), some (.inl x4), some (.inr (some (3, j1)))], [.inl (nI 0), .inr (some (3, j1))], (zu (zu (zu (zu (zu (zu S 192 j1 0 (S 65 0 0)) 193 j1 0 x1) 194 j1 0 x2) 195 j1 0 x3) 196 j1 0 x4) 197 j1 0 (nI 0), d))) rfl ?_
  refine zwp_grd (c' := (105, [some (.inr (some (1, 0))), some (.inl x1), some (.inl x2), some (.inl x3), some (.inl x4), some (.inr (some (3, j1)))], [], (zu (zu (zu (zu (zu (zu (zu S 192 j1 0 (S 65 0 0)) 193 j1 0 x1) 194 j1 0 x2) 195 j1 0 x3) 196 j1 0 x4) 197 j1 0 (nI 0)) 198 j1 0 (nI 0), d))) rfl (by decide) ?_
  refine zwp_blk 5 (c' := (115, [some (.inr (some (1, 0))), some (.inl x1), some (.inl x2), some (.inl x3), some (.inl x4), some (.inr (some (3, j1)))], [.inl (S 67 0 0), .inl (S 65 0 0), .inr (some (3, j1))], (zu (zu (zu (zu (zu (zu (zu S 192 j1 0 (S 65 0 0)) 193 j1 0 x1) 194 j1 0 x2) 195 j1 0 x3) 196 j1 0 x4) 197 j1 0 (nI 0)) 198 j1 0 (nI 0), d))) rfl ?_
  refine zwp_br rfl (fun hb => ?_) (fun hb => ?_)
  · show zwp 39 (125, [some (.inr (some (1, 0))), some (.inl x1), some (.inl x2), some (.inl x3), some (.inl x4), some (.inr (some (3, j1)))], [.inr (some (3, j1))], (zu (zu (zu (zu (zu (zu (zu S 192 j1 0 (S 65 0 0)) 193 j1 0 x1) 194 j1 0 x2) 195 j1 0 x3) 196 j1 0 x4) 197 j1 0 (nI 0)) 198 j1 0 (nI 0), d)) Q
    replace h := h.1 (of_decide_eq_true hb)
    refine zwp_blk 4 (c' := (134, [some (.inr (some (1, 0))), some (.inl x1), some (.inl x2), some (.inl x3), some (.inl x4), some (.inr (some (3, j1)))], [.inr (some (3, j1))], (zu (zu (zu (zu (zu (zu (zu (zu S 192 j1 0 (S 65 0 0)) 193 j1 0 x1) 194 j1 0 x2) 195 j1 0 x3) 196 j1 0 x4) 197 j1 0 (nI 0)) 198 j1 0 (nI 0)) 199 j1 0 (S 65 0 0), d))) rfl ?_
    exact zwp_end rfl h
  · show zwp 39 (118, [some (.inr (some (1, 0))), some (.inl x1), some (.inl x2), some (.inl x3), some (.inl x4), some (.inr (some (3, j1)))], [.inr (some (3, j1))], (zu (zu (zu (zu (zu (zu (zu S 192 j1 0 (S 65 0 0)) 193 j1 0 x1) 194 j1 0 x2) 195 j1 0 x3) 196 j1 0 x4) 197 j1 0 (nI 0)) 198 j1 0 (nI 0), d)) Q
    replace h := h.2 (of_decide_eq_false hb)
    refine zwp_blk 5 (c' := (134, [some (.inr (some (1, 0))), some (.inl x1), some (.inl x2), some (.inl x3), some (.inl x4), some (.inr (some (3, j1)))], [.inr (some (3, j1))], (zu (zu (zu (zu (zu (zu (zu (zu S 192 j1 0 (S 65 0 0)) 193 j1 0 x1) 194 j1 0 x2) 195 j1 0 x3) 196 j1 0 x4) 197 j1 0 (nI 0)) 198 j1 0 (nI 0)) 199 j1 0 (S 67 0 0), d))) rfl ?_
    exact zwp_end rfl h
-- 40 PageKeeper$Log.startSplit
theorem w40_0 {S : zS} {d : Nat} {Q : zO → zT → Prop}  (h : Q (.inl none) (zu S 67 0 0 ((S 65 0 0) + (nI 3)), d)) : zwp 40 (0, [some (.inr (some (1, 0)))], [], (S, d)) Q := by
  refine zwp_blk 6 (c' := (10, [some (.inr (some (1, 0)))], [], (zu S 67 0 0 ((S 65 0 0) + (nI 3)), d))) rfl ?_
  exact zwp_end rfl h
-- 41 PageKeeper$Log.force
theorem w41_0 {S : zS} {d : Nat} {Q : zO → zT → Prop} {x1 : Int32} (h : (x1 ≤ 0 → Q (.inl none) (S, d)) ∧ (¬ x1 ≤ 0 → ((S 65 0 0) < x1 → Q (.inl none) (S, d)) ∧ (¬ (S 65 0 0) < x1 → ∃ j1 : Nat, x1 = nI j1 ∧ j1 < 1145 ∧ (1 ≤ j1 ∧ j1 ≤ d) ∧ (((S 199 j1 0) ≤ (S 66 0 0) → Q (.inl none) (S, d)) ∧ (¬ (S 199 j1 0) ≤ (S 66 0 0) → ∃ j2 : Nat, x1 = nI j2 ∧ j2 < 1145 ∧ (1 ≤ j2 ∧ j2 ≤ d) ∧ (Q (.inl none) (zu S 66 0 0 (S 199 j2 0), d))))))) : zwp 41 (0, [some (.inr (some (1, 0))), some (.inl x1)], [], (S, d)) Q := by
  refine zwp_blk 1 (c' := (1, [some (.inr (some (1, 0))), some (.inl x1)], [.inl x1], (S, d))) rfl ?_
  refine zwp_br rfl (fun hb => ?_) (fun hb => ?_)
  · show zwp 41 (41, [some (.inr (some (1, 0))), some (.inl x1)], [], (S, d)) Q
    replace h := h.1 (of_decide_eq_true hb)
    exact zwp_end rfl h
  · show zwp 41 (4, [some (.inr (some (1, 0))), some (.inl x1)], [], (S, d)) Q
    replace h := h.2 (of_decide_eq_false hb)
    refine zwp_blk 3 (c' := (9, [some (.inr (some (1, 0))), some (.inl x1)], [.inl (S 65 0 0), .inl x1], (S, d))) rfl ?_
    refine zwp_br rfl (fun hb => ?_) (fun hb => ?_)
    · show zwp 41 (41, [some (.inr (some (1, 0))), some (.inl x1)], [], (S, d)) Q
      replace h := h.1 (of_decide_eq_true hb)
      exact zwp_end rfl h
    · show zwp 41 (12, [some (.inr (some (1, 0))), some (.inl x1)], [], (S, d)) Q
      replace h := h.2 (of_decide_eq_false hb)
      refine zwp_blk 3 (c' := (17, [some (.inr (some (1, 0))), some (.inl x1)], [.inl x1, .inr (some (2, 0))], (S, d))) rfl ?_
      obtain ⟨j1, ej1, lj1, h⟩ := h
      refine zwp_aldx (n := 1145) (k := 3) (pc' := 18) (ls := [some (.inr (some (1, 0))), some (.inl x1)]) (r := []) (t := (S, d)) rfl ej1 lj1 (by decide) (zok_3 h.1) ?_
      replace h := h.2
      refine zwp_blk 3 (c' := (25, [some (.inr (some (1, 0))), some (.inl x1)], [.inl (S 66 0 0), .inl (S 199 j1 0)], (S, d))) rfl ?_
      refine zwp_br rfl (fun hb => ?_) (fun hb => ?_)
      · show zwp 41 (41, [some (.inr (some (1, 0))), some (.inl x1)], [], (S, d)) Q
        replace h := h.1 (of_decide_eq_true hb)
        exact zwp_end rfl h
      · show zwp 41 (28, [some (.inr (some (1, 0))), some (.inl x1)], [], (S, d)) Q
        replace h := h.2 (of_decide_eq_false hb)
        refine zwp_blk 4 (c' := (34, [some (.inr (some (1, 0))), some (.inl x1)], [.inl x1, .inr (some (2, 0)), .inr (some (1, 0))], (S, d))) rfl ?_
        obtain ⟨j2, ej2, lj2, h⟩ := h
        refine zwp_aldx (n := 1145) (k := 3) (pc' := 35) (ls := [some (.inr (some (1, 0))), some (.inl x1)]) (r := [.inr (some (1, 0))]) (t := (S, d)) rfl ej2 lj2 (by decide) (zok_3 h.1) ?_
        replace h := h.2
        refine zwp_blk 2 (c' := (41, [some (.inr (some (1, 0))), some (.inl x1)], [], (zu S 66 0 0 (S 199 j2 0), d))) rfl ?_
        exact zwp_end rfl h
-- 42 PageKeeper$Log.loseUnforced
theorem w42_0 {S : zS} {d : Nat} {Q : zO → zT → Prop}  (h : Q (.inl none) (zu (zu S 65 0 0 (S 66 0 0)) 67 0 0 (nI 0), d)) : zwp 42 (0, [some (.inr (some (1, 0)))], [], (S, d)) Q := by
  refine zwp_blk 7 (c' := (13, [some (.inr (some (1, 0)))], [], (zu (zu S 65 0 0 (S 66 0 0)) 67 0 0 (nI 0), d))) rfl ?_
  exact zwp_end rfl h
-- 43 PageKeeper$LogRow.bringHalf
theorem w43_0 {S : zS} {d : Nat} {Q : zO → zT → Prop} {x0 : Nat} {x1 : Nat} {x2 : Int32} (h : (x2 < 0 → Q (.inl none) (S, d)) ∧ (¬ x2 < 0 → (x2 ≤ (nI 2) → ((S 768 x1 0) = 0 ∨ (S 768 x1 0) = 1) ∧ (∃ j1 : Nat, x2 = nI j1 ∧ j1 < 4 ∧ (∃ j2 : Nat, x2 = nI j2 ∧ j2 < 4 ∧ (∃ j3 : Nat, x2 + (nI 1) = nI j3 ∧ j3 < 4 ∧ (∃ j4 : Nat, x2 + (nI 1) = nI j4 ∧ j4 < 4 ∧ (Q (.inl none) (zu (zu (zu (zu (zu S 204 x0 0 (S 768 x1 0)) 200 x0 0 (S 832 x1 j1)) 201 x0 0 (S 896 x1 j2)) 202 x0 0 (S 832 x1 j3)) 203 x0 0 (S 896 x1 j4), d))))))) ∧ (¬ x2 ≤ (nI 2) → Q (.inl none) (S, d)))) : zwp 43 (0, [some (.inr (some (3, x0))), some (.inr (some (12, x1))), some (.inl x2)], [], (S, d)) Q := by
  refine zwp_blk 1 (c' := (1, [some (.inr (some (3, x0))), some (.inr (some (12, x1))), some (.inl x2)], [.inl x2], (S, d))) rfl ?_
  refine zwp_br rfl (fun hb => ?_) (fun hb => ?_)
  · show zwp 43 (9, [some (.inr (some (3, x0))), some (.inr (some (12, x1))), some (.inl x2)], [], (S, d)) Q
    replace h := h.1 (of_decide_eq_true hb)
    exact zwp_end rfl h
  · show zwp 43 (4, [some (.inr (some (3, x0))), some (.inr (some (12, x1))), some (.inl x2)], [], (S, d)) Q
    replace h := h.2 (of_decide_eq_false hb)
    refine zwp_blk 2 (c' := (6, [some (.inr (some (3, x0))), some (.inr (some (12, x1))), some (.inl x2)], [.inl (nI 2), .inl x2], (S, d))) rfl ?_
    refine zwp_br rfl (fun hb => ?_) (fun hb => ?_)
    · show zwp 43 (10, [some (.inr (some (3, x0))), some (.inr (some (12, x1))), some (.inl x2)], [], (S, d)) Q
      replace h := h.1 (of_decide_eq_true hb)
      refine zwp_blk 3 (c' := (15, [some (.inr (some (3, x0))), some (.inr (some (12, x1))), some (.inl x2)], [.inl (S 768 x1 0), .inr (some (3, x0))], (S, d))) rfl ?_
      refine zwp_grd (c' := (18, [some (.inr (some (3, x0))), some (.inr (some (12, x1))), some (.inl x2)], [], (zu S 204 x0 0 (S 768 x1 0), d))) rfl (decide_eq_true h.1) ?_
      replace h := h.2
      refine zwp_blk 4 (c' := (24, [some (.inr (some (3, x0))), some (.inr (some (12, x1))), some (.inl x2)], [.inl x2, .inr (some (13, x1)), .inr (some (3, x0))], (zu S 204 x0 0 (S 768 x1 0), d))) rfl ?_
      obtain ⟨j1, ej1, lj1, h⟩ := h
      refine zwp_ldx (n := 4) (cd := 832) (i := x1) (pc' := 25) (ls := [some (.inr (some (3, x0))), some (.inr (some (12, x1))), some (.inl x2)]) (r := [.inr (some (3, x0))]) (t := (zu S 204 x0 0 (S 768 x1 0), d)) rfl ej1 lj1 (by decide) ?_
      refine zwp_blk 5 (c' := (34, [some (.inr (some (3, x0))), some (.inr (some (12, x1))), some (.inl x2)], [.inl x2, .inr (some (14, x1)), .inr (some (3, x0))], (zu (zu S 204 x0 0 (S 768 x1 0)) 200 x0 0 (S 832 x1 j1), d))) rfl ?_
      obtain ⟨j2, ej2, lj2, h⟩ := h
      refine zwp_ldx (n := 4) (cd := 896) (i := x1) (pc' := 35) (ls := [some (.inr (some (3, x0))), some (.inr (some (12, x1))), some (.inl x2)]) (r := [.inr (some (3, x0))]) (t := (zu (zu S 204 x0 0 (S 768 x1 0)) 200 x0 0 (S 832 x1 j1), d)) rfl ej2 lj2 (by decide) ?_
      refine zwp_blk 7 (c' := (46, [some (.inr (some (3, x0))), some (.inr (some (12, x1))), some (.inl x2)], [.inl (x2 + (nI 1)), .inr (some (13, x1)), .inr (some (3, x0))], (zu (zu (zu S 204 x0 0 (S 768 x1 0)) 200 x0 0 (S 832 x1 j1)) 201 x0 0 (S 896 x1 j2), d))) rfl ?_
      obtain ⟨j3, ej3, lj3, h⟩ := h
      refine zwp_ldx (n := 4) (cd := 832) (i := x1) (pc' := 47) (ls := [some (.inr (some (3, x0))), some (.inr (some (12, x1))), some (.inl x2)]) (r := [.inr (some (3, x0))]) (t := (zu (zu (zu S 204 x0 0 (S 768 x1 0)) 200 x0 0 (S 832 x1 j1)) 201 x0 0 (S 896 x1 j2), d)) rfl ej3 lj3 (by decide) ?_
      refine zwp_blk 7 (c' := (58, [some (.inr (some (3, x0))), some (.inr (some (12, x1))), some (.inl x2)], [.inl (x2 + (nI 1)), .inr (some (14, x1)), .inr (some (3, x0))], (zu (zu (zu (zu S 204 x0 0 (S 768 x1 0)) 200 x0 0 (S 832 x1 j1)) 201 x0 0 (S 896 x1 j2)) 202 x0 0 (S 832 x1 j3), d))) rfl ?_
      obtain ⟨j4, ej4, lj4, h⟩ := h
      refine zwp_ldx (n := 4) (cd := 896) (i := x1) (pc' := 59) (ls := [some (.inr (some (3, x0))), some (.inr (some (12, x1))), some (.inl x2)]) (r := [.inr (some (3, x0))]) (t := (zu (zu (zu (zu S 204 x0 0 (S 768 x1 0)) 200 x0 0 (S 832 x1 j1)) 201 x0 0 (S 896 x1 j2)) 202 x0 0 (S 832 x1 j3), d)) rfl ej4 lj4 (by decide) ?_
      refine zwp_blk 1 (c' := (62, [some (.inr (some (3, x0))), some (.inr (some (12, x1))), some (.inl x2)], [], (zu (zu (zu (zu (zu S 204 x0 0 (S 768 x1 0)) 200 x0 0 (S 832 x1 j1)) 201 x0 0 (S 896 x1 j2)) 202 x0 0 (S 832 x1 j3)) 203 x0 0 (S 896 x1 j4), d))) rfl ?_
      exact zwp_end rfl h
    · show zwp 43 (9, [some (.inr (some (3, x0))), some (.inr (some (12, x1))), some (.inl x2)], [], (S, d)) Q
      replace h := h.2 (of_decide_eq_false hb)
      exact zwp_end rfl h
-- 44 PageKeeper$LogRow.bringBranch
theorem w44_0 {S : zS} {d : Nat} {Q : zO → zT → Prop} {x0 : Nat} {x1 : Int32} {x2 : Int32} {x3 : Int32} (h : Q (.inl none) (zu (zu (zu (zu S 204 x0 0 (nI 1)) 200 x0 0 x1) 201 x0 0 x2) 202 x0 0 x3, d)) : zwp 44 (0, [some (.inr (some (3, x0))), some (.inl x1), some (.inl x2), some (.inl x3)], [], (S, d)) Q := by
  refine zwp_blk 2 (c' := (2, [some (.inr (some (3, x0))), some (.inl x1), some (.inl x2), some (.inl x3)], [.inl (nI 1), .inr (some (3, x0))], (S, d))) rfl ?_
  refine zwp_grd (c' := (5, [some (.inr (some (3, x0))), some (.inl x1), some (.inl x2), some (.inl x3)], [], (zu S 204 x0 0 (nI 1), d))) rfl (by decide) ?_
  refine zwp_blk 9 (c' := (20, [some (.inr (some (3, x0))), some (.inl x1), some (.inl x2), some (.inl x3)], [], (zu (zu (zu (zu S 204 x0 0 (nI 1)) 200 x0 0 x1) 201 x0 0 x2) 202 x0 0 x3, d))) rfl ?_
  exact zwp_end rfl h
-- 45 PageKeeper$LogRow.bringChild
theorem w45_0 {S : zS} {d : Nat} {Q : zO → zT → Prop} {x0 : Nat} {x1 : Int32} {x2 : Int32} {x3 : Int32} (h : Q (.inl none) (zu (zu (zu S 200 x0 0 x2) 201 x0 0 x1) 205 x0 0 x3, d)) : zwp 45 (0, [some (.inr (some (3, x0))), some (.inl x1), some (.inl x2), some (.inl x3)], [], (S, d)) Q := by
  refine zwp_blk 9 (c' := (15, [some (.inr (some (3, x0))), some (.inl x1), some (.inl x2), some (.inl x3)], [], (zu (zu (zu S 200 x0 0 x2) 201 x0 0 x1) 205 x0 0 x3, d))) rfl ?_
  exact zwp_end rfl h
-- 46 PageKeeper$LogRow.isChange
theorem w46_0 {S : zS} {d : Nat} {Q : zO → zT → Prop} {x0 : Nat} (h : ((S 193 x0 0) = (nI 1) → Q (.inl (some (.inl (nI 1)))) (S, d)) ∧ (¬ (S 193 x0 0) = (nI 1) → ((S 193 x0 0) = (nI 2) → Q (.inl (some (.inl (nI 1)))) (S, d)) ∧ (¬ (S 193 x0 0) = (nI 2) → Q (.inl (some (.inl (nI 0)))) (S, d)))) : zwp 46 (0, [some (.inr (some (3, x0)))], [], (S, d)) Q := by
  refine zwp_blk 3 (c' := (5, [some (.inr (some (3, x0)))], [.inl (nI 1), .inl (S 193 x0 0)], (S, d))) rfl ?_
  refine zwp_br rfl (fun hb => ?_) (fun hb => ?_)
  · show zwp 46 (16, [some (.inr (some (3, x0)))], [], (S, d)) Q
    replace h := h.1 (of_decide_eq_true hb)
    refine zwp_blk 2 (c' := (21, [some (.inr (some (3, x0)))], [.inl (nI 1)], (S, d))) rfl ?_
    exact zwp_ret01 (x := nI 1) rfl (by decide) h
  · show zwp 46 (8, [some (.inr (some (3, x0)))], [], (S, d)) Q
    replace h := h.2 (of_decide_eq_false hb)
    refine zwp_blk 3 (c' := (13, [some (.inr (some (3, x0)))], [.inl (nI 2), .inl (S 193 x0 0)], (S, d))) rfl ?_
    refine zwp_br rfl (fun hb => ?_) (fun hb => ?_)
    · show zwp 46 (20, [some (.inr (some (3, x0)))], [], (S, d)) Q
      replace h := h.2 (zne_t hb)
      refine zwp_blk 1 (c' := (21, [some (.inr (some (3, x0)))], [.inl (nI 0)], (S, d))) rfl ?_
      exact zwp_ret01 (x := nI 0) rfl (by decide) h
    · show zwp 46 (16, [some (.inr (some (3, x0)))], [], (S, d)) Q
      replace h := h.1 (zne_f hb)
      refine zwp_blk 2 (c' := (21, [some (.inr (some (3, x0)))], [.inl (nI 1)], (S, d))) rfl ?_
      exact zwp_ret01 (x := nI 1) rfl (by decide) h
-- 47 PageKeeper$LogRow.isToUndo
theorem w47_0 {S : zS} {d : Nat} {Q : zO → zT → Prop} {x0 : Nat} (h : zwp 46 (0, zent 46 [.inr (some (3, x0))], [], (S, d)) (zaf 47 4 [some (.inr (some (3, x0)))] [] Q)) : zwp 47 (0, [some (.inr (some (3, x0)))], [], (S, d)) Q := by
  refine zwp_blk 1 (c' := (1, [some (.inr (some (3, x0)))], [.inr (some (3, x0))], (S, d))) rfl ?_
  exact zwp_call rfl h
theorem w47_4 {S : zS} {d : Nat} {Q : zO → zT → Prop} {x0 : Nat} {y0 : Int32} (h : (y0 = 0 → Q (.inl (some (.inl (nI 0)))) (S, d)) ∧ (¬ y0 = 0 → ((S 197 x0 0) = 0 → ((S 198 x0 0) = 0 → Q (.inl (some (.inl (nI 1)))) (S, d)) ∧ (¬ (S 198 x0 0) = 0 → Q (.inl (some (.inl (nI 0)))) (S, d))) ∧ (¬ (S 197 x0 0) = 0 → Q (.inl (some (.inl (nI 0)))) (S, d)))) : zwp 47 (4, [some (.inr (some (3, x0)))], [.inl y0], (S, d)) Q := by
  refine zwp_br rfl (fun hb => ?_) (fun hb => ?_)
  · show zwp 47 (25, [some (.inr (some (3, x0)))], [], (S, d)) Q
    replace h := h.1 (of_decide_eq_true hb)
    refine zwp_blk 1 (c' := (26, [some (.inr (some (3, x0)))], [.inl (nI 0)], (S, d))) rfl ?_
    exact zwp_ret01 (x := nI 0) rfl (by decide) h
  · show zwp 47 (7, [some (.inr (some (3, x0)))], [], (S, d)) Q
    replace h := h.2 (of_decide_eq_false hb)
    refine zwp_blk 2 (c' := (11, [some (.inr (some (3, x0)))], [.inl (S 197 x0 0)], (S, d))) rfl ?_
    refine zwp_br rfl (fun hb => ?_) (fun hb => ?_)
    · show zwp 47 (25, [some (.inr (some (3, x0)))], [], (S, d)) Q
      replace h := h.2 (zne_t hb)
      refine zwp_blk 1 (c' := (26, [some (.inr (some (3, x0)))], [.inl (nI 0)], (S, d))) rfl ?_
      exact zwp_ret01 (x := nI 0) rfl (by decide) h
    · show zwp 47 (14, [some (.inr (some (3, x0)))], [], (S, d)) Q
      replace h := h.1 (zne_f hb)
      refine zwp_blk 2 (c' := (18, [some (.inr (some (3, x0)))], [.inl (S 198 x0 0)], (S, d))) rfl ?_
      refine zwp_br rfl (fun hb => ?_) (fun hb => ?_)
      · show zwp 47 (25, [some (.inr (some (3, x0)))], [], (S, d)) Q
        replace h := h.2 (zne_t hb)
        refine zwp_blk 1 (c' := (26, [some (.inr (some (3, x0)))], [.inl (nI 0)], (S, d))) rfl ?_
        exact zwp_ret01 (x := nI 0) rfl (by decide) h
      · show zwp 47 (21, [some (.inr (some (3, x0)))], [], (S, d)) Q
        replace h := h.1 (zne_f hb)
        refine zwp_blk 2 (c' := (26, [some (.inr (some (3, x0)))], [.inl (nI 1)], (S, d))) rfl ?_
        exact zwp_ret01 (x := nI 1) rfl (by decide) h
-- 48 PageKeeper$Pool.has
theorem w48_0 {S : zS} {d : Nat} {Q : zO → zT → Prop} {x1 : Int32} (h : zwp 49 (0, zent 49 [.inr (some (4, 0)), .inl x1], [], (S, d)) (zaf 48 5 [some (.inr (some (4, 0))), some (.inl x1)] [] Q)) : zwp 48 (0, [some (.inr (some (4, 0))), some (.inl x1)], [], (S, d)) Q := by
  refine zwp_blk 2 (c' := (2, [some (.inr (some (4, 0))), some (.inl x1)], [.inl x1, .inr (some (4, 0))], (S, d))) rfl ?_
  exact zwp_call rfl h
theorem w48_5 {S : zS} {d : Nat} {Q : zO → zT → Prop} {x1 : Int32} {y0 : Int32} (h : (y0 = (zint (-1)) → Q (.inl (some (.inl (nI 0)))) (S, d)) ∧ (¬ y0 = (zint (-1)) → Q (.inl (some (.inl (nI 1)))) (S, d))) : zwp 48 (5, [some (.inr (some (4, 0))), some (.inl x1)], [.inl y0], (S, d)) Q := by
  refine zwp_blk 1 (c' := (6, [some (.inr (some (4, 0))), some (.inl x1)], [.inl (zint (-1)), .inl y0], (S, d))) rfl ?_
  refine zwp_br rfl (fun hb => ?_) (fun hb => ?_)
  · show zwp 48 (13, [some (.inr (some (4, 0))), some (.inl x1)], [], (S, d)) Q
    replace h := h.1 (of_decide_eq_true hb)
    refine zwp_blk 1 (c' := (14, [some (.inr (some (4, 0))), some (.inl x1)], [.inl (nI 0)], (S, d))) rfl ?_
    exact zwp_ret01 (x := nI 0) rfl (by decide) h
  · show zwp 48 (9, [some (.inr (some (4, 0))), some (.inl x1)], [], (S, d)) Q
    replace h := h.2 (of_decide_eq_false hb)
    refine zwp_blk 2 (c' := (14, [some (.inr (some (4, 0))), some (.inl x1)], [.inl (nI 1)], (S, d))) rfl ?_
    exact zwp_ret01 (x := nI 1) rfl (by decide) h
-- 49 PageKeeper$Pool.indexOf
theorem w49_0 {S : zS} {d : Nat} {Q : zO → zT → Prop} {x1 : Int32} (h : zwp 49 (2, [some (.inr (some (4, 0))), some (.inl x1), some (.inl (nI 0))], [], (S, d)) Q) : zwp 49 (0, [some (.inr (some (4, 0))), some (.inl x1), none], [], (S, d)) Q := by
  refine zwp_blk 2 (c' := (2, [some (.inr (some (4, 0))), some (.inl x1), some (.inl (nI 0))], [], (S, d))) rfl ?_
  exact h
theorem w49_2 {S : zS} {d : Nat} {Q : zO → zT → Prop} {x1 : Int32} {x2 : Int32} (h : ((S 257 0 0) ≤ x2 → Q (.inl (some (.inl (zint (-1))))) (S, d)) ∧ (¬ (S 257 0 0) ≤ x2 → ∃ j1 : Nat, x2 = nI j1 ∧ j1 < 6 ∧ (((S 320 0 j1) = x1 → Q (.inl (some (.inl x2))) (S, d)) ∧ (¬ (S 320 0 j1) = x1 → zwp 49 (2, [some (.inr (some (4, 0))), some (.inl x1), some (.inl (x2 + nI 1))], [], (S, d)) Q)))) : zwp 49 (2, [some (.inr (some (4, 0))), some (.inl x1), some (.inl x2)], [], (S, d)) Q := by
  refine zwp_blk 3 (c' := (7, [some (.inr (some (4, 0))), some (.inl x1), some (.inl x2)], [.inl (S 257 0 0), .inl x2], (S, d))) rfl ?_
  refine zwp_br rfl (fun hb => ?_) (fun hb => ?_)
  · show zwp 49 (28, [some (.inr (some (4, 0))), some (.inl x1), some (.inl x2)], [], (S, d)) Q
    replace h := h.1 (of_decide_eq_true hb)
    refine zwp_blk 1 (c' := (29, [some (.inr (some (4, 0))), some (.inl x1), some (.inl x2)], [.inl (zint (-1))], (S, d))) rfl ?_
    exact zwp_end rfl h
  · show zwp 49 (10, [some (.inr (some (4, 0))), some (.inl x1), some (.inl x2)], [], (S, d)) Q
    replace h := h.2 (of_decide_eq_false hb)
    refine zwp_blk 3 (c' := (15, [some (.inr (some (4, 0))), some (.inl x1), some (.inl x2)], [.inl x2, .inr (some (5, 0))], (S, d))) rfl ?_
    obtain ⟨j1, ej1, lj1, h⟩ := h
    refine zwp_ldx (n := 6) (cd := 320) (i := 0) (pc' := 16) (ls := [some (.inr (some (4, 0))), some (.inl x1), some (.inl x2)]) (r := []) (t := (S, d)) rfl ej1 lj1 (by decide) ?_
    refine zwp_blk 1 (c' := (17, [some (.inr (some (4, 0))), some (.inl x1), some (.inl x2)], [.inl x1, .inl (S 320 0 j1)], (S, d))) rfl ?_
    refine zwp_br rfl (fun hb => ?_) (fun hb => ?_)
    · show zwp 49 (22, [some (.inr (some (4, 0))), some (.inl x1), some (.inl x2)], [], (S, d)) Q
      replace h := h.2 (zne_t hb)
      refine zwp_blk 2 (c' := (2, [some (.inr (some (4, 0))), some (.inl x1), some (.inl (x2 + nI 1))], [], (S, d))) rfl ?_
      exact h
    · show zwp 49 (20, [some (.inr (some (4, 0))), some (.inl x1), some (.inl x2)], [], (S, d)) Q
      replace h := h.1 (zne_f hb)
      refine zwp_blk 1 (c' := (21, [some (.inr (some (4, 0))), some (.inl x1), some (.inl x2)], [.inl x2], (S, d))) rfl ?_
      exact zwp_end rfl h
-- 50 PageKeeper$Pool.leavingFor
theorem w50_0 {S : zS} {d : Nat} {Q : zO → zT → Prop} {x1 : Int32} (h : ((S 257 0 0) < (nI 6) → Q (.inl (some (.inl (zint (-1))))) (S, d)) ∧ (¬ (S 257 0 0) < (nI 6) → zwp 49 (0, zent 49 [.inr (some (4, 0)), .inl x1], [], (S, d)) (zaf 50 14 [some (.inr (some (4, 0))), some (.inl x1)] [] Q))) : zwp 50 (0, [some (.inr (some (4, 0))), some (.inl x1)], [], (S, d)) Q := by
  refine zwp_blk 3 (c' := (6, [some (.inr (some (4, 0))), some (.inl x1)], [.inl (nI 6), .inl (S 257 0 0)], (S, d))) rfl ?_
  refine zwp_br rfl (fun hb => ?_) (fun hb => ?_)
  · show zwp 50 (18, [some (.inr (some (4, 0))), some (.inl x1)], [], (S, d)) Q
    replace h := h.1 (of_decide_eq_true hb)
    refine zwp_blk 2 (c' := (28, [some (.inr (some (4, 0))), some (.inl x1)], [.inl (zint (-1))], (S, d))) rfl ?_
    exact zwp_end rfl h
  · show zwp 50 (9, [some (.inr (some (4, 0))), some (.inl x1)], [], (S, d)) Q
    replace h := h.2 (of_decide_eq_false hb)
    refine zwp_blk 2 (c' := (11, [some (.inr (some (4, 0))), some (.inl x1)], [.inl x1, .inr (some (4, 0))], (S, d))) rfl ?_
    exact zwp_call rfl h
theorem w50_14 {S : zS} {d : Nat} {Q : zO → zT → Prop} {x1 : Int32} {y0 : Int32} (h : (y0 = (zint (-1)) → ∃ j1 : Nat, nI 0 = nI j1 ∧ j1 < 6 ∧ (Q (.inl (some (.inl (S 320 0 j1)))) (S, d))) ∧ (¬ y0 = (zint (-1)) → Q (.inl (some (.inl (zint (-1))))) (S, d))) : zwp 50 (14, [some (.inr (some (4, 0))), some (.inl x1)], [.inl y0], (S, d)) Q := by
  refine zwp_blk 1 (c' := (15, [some (.inr (some (4, 0))), some (.inl x1)], [.inl (zint (-1)), .inl y0], (S, d))) rfl ?_
  refine zwp_br rfl (fun hb => ?_) (fun hb => ?_)
  · show zwp 50 (22, [some (.inr (some (4, 0))), some (.inl x1)], [], (S, d)) Q
    replace h := h.1 (of_decide_eq_true hb)
    refine zwp_blk 3 (c' := (27, [some (.inr (some (4, 0))), some (.inl x1)], [.inl (nI 0), .inr (some (5, 0))], (S, d))) rfl ?_
    obtain ⟨j1, ej1, lj1, h⟩ := h
    refine zwp_ldx (n := 6) (cd := 320) (i := 0) (pc' := 28) (ls := [some (.inr (some (4, 0))), some (.inl x1)]) (r := []) (t := (S, d)) rfl ej1 lj1 (by decide) ?_
    exact zwp_end rfl h
  · show zwp 50 (18, [some (.inr (some (4, 0))), some (.inl x1)], [], (S, d)) Q
    replace h := h.2 (of_decide_eq_false hb)
    refine zwp_blk 2 (c' := (28, [some (.inr (some (4, 0))), some (.inl x1)], [.inl (zint (-1))], (S, d))) rfl ?_
    exact zwp_end rfl h
-- 51 PageKeeper$Pool.touch
theorem w51_0 {S : zS} {d : Nat} {Q : zO → zT → Prop} {x1 : Int32} (h : zwp 49 (0, zent 49 [.inr (some (4, 0)), .inl x1], [], (S, d)) (zaf 51 5 [some (.inr (some (4, 0))), some (.inl x1), none] [] Q)) : zwp 51 (0, [some (.inr (some (4, 0))), some (.inl x1), none], [], (S, d)) Q := by
  refine zwp_blk 2 (c' := (2, [some (.inr (some (4, 0))), some (.inl x1), none], [.inl x1, .inr (some (4, 0))], (S, d))) rfl ?_
  exact zwp_call rfl h
theorem w51_5 {S : zS} {d : Nat} {Q : zO → zT → Prop} {x1 : Int32} {y0 : Int32} (h : (y0 = (zint (-1)) → ((S 257 0 0) = (nI 6) → zwp 52 (0, zent 52 [.inr (some (4, 0)), .inl (nI 0)], [], (S, d)) (zaf 51 33 [some (.inr (some (4, 0))), some (.inl x1), some (.inl y0)] [] Q)) ∧ (¬ (S 257 0 0) = (nI 6) → zwp 51 (33, [some (.inr (some (4, 0))), some (.inl x1), some (.inl y0)], [], (S, d)) Q)) ∧ (¬ y0 = (zint (-1)) → zwp 52 (0, zent 52 [.inr (some (4, 0)), .inl y0], [], (S, d)) (zaf 51 16 [some (.inr (some (4, 0))), some (.inl x1), some (.inl y0)] [] Q))) : zwp 51 (5, [some (.inr (some (4, 0))), some (.inl x1), none], [.inl y0], (S, d)) Q := by
  refine zwp_blk 3 (c' := (8, [some (.inr (some (4, 0))), some (.inl x1), some (.inl y0)], [.inl (zint (-1)), .inl y0], (S, d))) rfl ?_
  refine zwp_br rfl (fun hb => ?_) (fun hb => ?_)
  · show zwp 51 (19, [some (.inr (some (4, 0))), some (.inl x1), some (.inl y0)], [], (S, d)) Q
    replace h := h.1 (of_decide_eq_true hb)
    refine zwp_blk 3 (c' := (25, [some (.inr (some (4, 0))), some (.inl x1), some (.inl y0)], [.inl (nI 6), .inl (S 257 0 0)], (S, d))) rfl ?_
    refine zwp_br rfl (fun hb => ?_) (fun hb => ?_)
    · show zwp 51 (33, [some (.inr (some (4, 0))), some (.inl x1), some (.inl y0)], [], (S, d)) Q
      replace h := h.2 (zne_t hb)
      exact h
    · show zwp 51 (28, [some (.inr (some (4, 0))), some (.inl x1), some (.inl y0)], [], (S, d)) Q
      replace h := h.1 (zne_f hb)
      refine zwp_blk 2 (c' := (30, [some (.inr (some (4, 0))), some (.inl x1), some (.inl y0)], [.inl (nI 0), .inr (some (4, 0))], (S, d))) rfl ?_
      exact zwp_call rfl h
  · show zwp 51 (11, [some (.inr (some (4, 0))), some (.inl x1), some (.inl y0)], [], (S, d)) Q
    replace h := h.2 (of_decide_eq_false hb)
    refine zwp_blk 2 (c' := (13, [some (.inr (some (4, 0))), some (.inl x1), some (.inl y0)], [.inl y0, .inr (some (4, 0))], (S, d))) rfl ?_
    exact zwp_call rfl h
theorem w51_16 {S : zS} {d : Nat} {Q : zO → zT → Prop} {x1 : Int32} {x2 : Int32} (h : zwp 51 (33, [some (.inr (some (4, 0))), some (.inl x1), some (.inl x2)], [], (S, d)) Q) : zwp 51 (16, [some (.inr (some (4, 0))), some (.inl x1), some (.inl x2)], [], (S, d)) Q := by
  refine zwp_blk 1 (c' := (33, [some (.inr (some (4, 0))), some (.inl x1), some (.inl x2)], [], (S, d))) rfl ?_
  exact h
theorem w51_33 {S : zS} {d : Nat} {Q : zO → zT → Prop} {x1 : Int32} {x2 : Int32} (h : ∃ j1 : Nat, S 257 0 0 = nI j1 ∧ j1 < 6 ∧ (Q (.inl none) (zu (zu S 320 0 j1 x1) 257 0 0 ((S 257 0 0) + (nI 1)), d))) : zwp 51 (33, [some (.inr (some (4, 0))), some (.inl x1), some (.inl x2)], [], (S, d)) Q := by
  refine zwp_blk 5 (c' := (42, [some (.inr (some (4, 0))), some (.inl x1), some (.inl x2)], [.inl x1, .inl (S 257 0 0), .inr (some (5, 0))], (S, d))) rfl ?_
  obtain ⟨j1, ej1, lj1, h⟩ := h
  refine zwp_stx (n := 6) (cd := 320) (i := 0) (v := x1) (pc' := 43) (ls := [some (.inr (some (4, 0))), some (.inl x1), some (.inl x2)]) (r := []) (t := (S, d)) rfl ej1 lj1 (by decide) ?_
  refine zwp_blk 6 (c' := (53, [some (.inr (some (4, 0))), some (.inl x1), some (.inl x2)], [], (zu (zu S 320 0 j1 x1) 257 0 0 ((S 257 0 0) + (nI 1)), d))) rfl ?_
  exact zwp_end rfl h
-- 52 PageKeeper$Pool.dropAt
theorem w52_0 {S : zS} {d : Nat} {Q : zO → zT → Prop} {x1 : Int32} (h : zwp 52 (12, [some (.inr (some (4, 0))), some (.inl x1), some (.inl x1)], [], (zu S 257 0 0 ((S 257 0 0) - (nI 1)), d)) Q) : zwp 52 (0, [some (.inr (some (4, 0))), some (.inl x1), none], [], (S, d)) Q := by
  refine zwp_blk 8 (c' := (12, [some (.inr (some (4, 0))), some (.inl x1), some (.inl x1)], [], (zu S 257 0 0 ((S 257 0 0) - (nI 1)), d))) rfl ?_
  exact h
theorem w52_12 {S : zS} {d : Nat} {Q : zO → zT → Prop} {x1 : Int32} {x2 : Int32} (h : ((S 257 0 0) ≤ x2 → Q (.inl none) (S, d)) ∧ (¬ (S 257 0 0) ≤ x2 → ∃ j1 : Nat, x2 + (nI 1) = nI j1 ∧ j1 < 6 ∧ (∃ j2 : Nat, x2 = nI j2 ∧ j2 < 6 ∧ (zwp 52 (12, [some (.inr (some (4, 0))), some (.inl x1), some (.inl (x2 + nI 1))], [], (zu S 320 0 j2 ((S 320 0 j1)), d)) Q)))) : zwp 52 (12, [some (.inr (some (4, 0))), some (.inl x1), some (.inl x2)], [], (S, d)) Q := by
  refine zwp_blk 3 (c' := (17, [some (.inr (some (4, 0))), some (.inl x1), some (.inl x2)], [.inl (S 257 0 0), .inl x2], (S, d))) rfl ?_
  refine zwp_br rfl (fun hb => ?_) (fun hb => ?_)
  · show zwp 52 (40, [some (.inr (some (4, 0))), some (.inl x1), some (.inl x2)], [], (S, d)) Q
    replace h := h.1 (of_decide_eq_true hb)
    exact zwp_end rfl h
  · show zwp 52 (20, [some (.inr (some (4, 0))), some (.inl x1), some (.inl x2)], [], (S, d)) Q
    replace h := h.2 (of_decide_eq_false hb)
    refine zwp_blk 8 (c' := (32, [some (.inr (some (4, 0))), some (.inl x1), some (.inl x2)], [.inl (x2 + (nI 1)), .inr (some (5, 0)), .inl x2, .inr (some (5, 0))], (S, d))) rfl ?_
    obtain ⟨j1, ej1, lj1, h⟩ := h
    refine zwp_ldx (n := 6) (cd := 320) (i := 0) (pc' := 33) (ls := [some (.inr (some (4, 0))), some (.inl x1), some (.inl x2)]) (r := [.inl x2, .inr (some (5, 0))]) (t := (S, d)) rfl ej1 lj1 (by decide) ?_
    obtain ⟨j2, ej2, lj2, h⟩ := h
    refine zwp_stx (n := 6) (cd := 320) (i := 0) (v := (S 320 0 j1)) (pc' := 34) (ls := [some (.inr (some (4, 0))), some (.inl x1), some (.inl x2)]) (r := []) (t := (S, d)) rfl ej2 lj2 (by decide) ?_
    refine zwp_blk 2 (c' := (12, [some (.inr (some (4, 0))), some (.inl x1), some (.inl (x2 + nI 1))], [], (zu S 320 0 j2 ((S 320 0 j1)), d))) rfl ?_
    exact h
-- 53 PageKeeper$Pool.clear
theorem w53_0 {S : zS} {d : Nat} {Q : zO → zT → Prop}  (h : Q (.inl none) (zu S 257 0 0 (nI 0), d)) : zwp 53 (0, [some (.inr (some (4, 0)))], [], (S, d)) Q := by
  refine zwp_blk 3 (c' := (5, [some (.inr (some (4, 0)))], [], (zu S 257 0 0 (nI 0), d))) rfl ?_
  exact zwp_end rfl h
-- 54 PageKeeper$Locks.takeShared
theorem w54_0 {S : zS} {d : Nat} {Q : zO → zT → Prop} {x1 : Int32} {x2 : Int32} (h : ∃ j1 : Nat, x1 = nI j1 ∧ j1 < 4 ∧ (∃ j2 : Nat, x2 = nI j2 ∧ j2 < 40 ∧ (((S 512 j1 j2) = 0 → zwp 56 (0, zent 56 [.inr (some (6, 0)), .inl x1, .inl x2, .inl (nI 2)], [], (S, d)) (zaf 54 19 [some (.inr (some (6, 0))), some (.inl x1), some (.inl x2)] [] Q)) ∧ (¬ (S 512 j1 j2) = 0 → Q (.inl none) (S, d))))) : zwp 54 (0, [some (.inr (some (6, 0))), some (.inl x1), some (.inl x2)], [], (S, d)) Q := by
  refine zwp_blk 3 (c' := (5, [some (.inr (some (6, 0))), some (.inl x1), some (.inl x2)], [.inl x1, .inr (some (7, 0))], (S, d))) rfl ?_
  obtain ⟨j1, ej1, lj1, h⟩ := h
  refine zwp_aldx (n := 4) (k := 8) (pc' := 6) (ls := [some (.inr (some (6, 0))), some (.inl x1), some (.inl x2)]) (r := []) (t := (S, d)) rfl ej1 lj1 (by decide) (zok_8 lj1) ?_
  refine zwp_blk 1 (c' := (7, [some (.inr (some (6, 0))), some (.inl x1), some (.inl x2)], [.inl x2, .inr (some (8, j1))], (S, d))) rfl ?_
  obtain ⟨j2, ej2, lj2, h⟩ := h
  refine zwp_ldx (n := 40) (cd := 512) (i := j1) (pc' := 8) (ls := [some (.inr (some (6, 0))), some (.inl x1), some (.inl x2)]) (r := []) (t := (S, d)) rfl ej2 lj2 (by decide) ?_
  refine zwp_br rfl (fun hb => ?_) (fun hb => ?_)
  · show zwp 54 (12, [some (.inr (some (6, 0))), some (.inl x1), some (.inl x2)], [], (S, d)) Q
    replace h := h.1 (of_decide_eq_true hb)
    refine zwp_blk 4 (c' := (16, [some (.inr (some (6, 0))), some (.inl x1), some (.inl x2)], [.inl (nI 2), .inl x2, .inl x1, .inr (some (6, 0))], (S, d))) rfl ?_
    exact zwp_call rfl h
  · show zwp 54 (11, [some (.inr (some (6, 0))), some (.inl x1), some (.inl x2)], [], (S, d)) Q
    replace h := h.2 (of_decide_eq_false hb)
    exact zwp_end rfl h
theorem w54_19 {S : zS} {d : Nat} {Q : zO → zT → Prop} {x1 : Int32} {x2 : Int32} {y0 : Int32} (h : (y0 = 0 → ∃ j1 : Nat, x1 = nI j1 ∧ j1 < 4 ∧ (∃ j2 : Nat, x2 = nI j2 ∧ j2 < 40 ∧ (Q (.inl none) (zu S 512 j1 j2 ((nI 1)), d)))) ∧ (¬ y0 = 0 → Q (.inr 2) (S, d))) : zwp 54 (19, [some (.inr (some (6, 0))), some (.inl x1), some (.inl x2)], [.inl y0], (S, d)) Q := by
  refine zwp_br rfl (fun hb => ?_) (fun hb => ?_)
  · show zwp 54 (30, [some (.inr (some (6, 0))), some (.inl x1), some (.inl x2)], [], (S, d)) Q
    replace h := h.1 (of_decide_eq_true hb)
    refine zwp_blk 3 (c' := (35, [some (.inr (some (6, 0))), some (.inl x1), some (.inl x2)], [.inl x1, .inr (some (7, 0))], (S, d))) rfl ?_
    obtain ⟨j1, ej1, lj1, h⟩ := h
    refine zwp_aldx (n := 4) (k := 8) (pc' := 36) (ls := [some (.inr (some (6, 0))), some (.inl x1), some (.inl x2)]) (r := []) (t := (S, d)) rfl ej1 lj1 (by decide) (zok_8 lj1) ?_
    refine zwp_blk 2 (c' := (38, [some (.inr (some (6, 0))), some (.inl x1), some (.inl x2)], [.inl (nI 1), .inl x2, .inr (some (8, j1))], (S, d))) rfl ?_
    obtain ⟨j2, ej2, lj2, h⟩ := h
    refine zwp_stx (n := 40) (cd := 512) (i := j1) (v := (nI 1)) (pc' := 39) (ls := [some (.inr (some (6, 0))), some (.inl x1), some (.inl x2)]) (r := []) (t := (S, d)) rfl ej2 lj2 (by decide) ?_
    exact zwp_end rfl h
  · show zwp 54 (22, [some (.inr (some (6, 0))), some (.inl x1), some (.inl x2)], [], (S, d)) Q
    replace h := h.2 (of_decide_eq_false hb)
    exact zwp_end rfl h
-- 55 PageKeeper$Locks.takeOwn
theorem w55_0 {S : zS} {d : Nat} {Q : zO → zT → Prop} {x1 : Int32} {x2 : Int32} (h : zwp 56 (0, zent 56 [.inr (some (6, 0)), .inl x1, .inl x2, .inl (nI 1)], [], (S, d)) (zaf 55 7 [some (.inr (some (6, 0))), some (.inl x1), some (.inl x2)] [] Q)) : zwp 55 (0, [some (.inr (some (6, 0))), some (.inl x1), some (.inl x2)], [], (S, d)) Q := by
  refine zwp_blk 4 (c' := (4, [some (.inr (some (6, 0))), some (.inl x1), some (.inl x2)], [.inl (nI 1), .inl x2, .inl x1, .inr (some (6, 0))], (S, d))) rfl ?_
  exact zwp_call rfl h
theorem w55_7 {S : zS} {d : Nat} {Q : zO → zT → Prop} {x1 : Int32} {x2 : Int32} {y0 : Int32} (h : (y0 = 0 → ∃ j1 : Nat, x1 = nI j1 ∧ j1 < 4 ∧ (∃ j2 : Nat, x2 = nI j2 ∧ j2 < 40 ∧ (Q (.inl none) (zu S 512 j1 j2 ((nI 2)), d)))) ∧ (¬ y0 = 0 → Q (.inr 2) (S, d))) : zwp 55 (7, [some (.inr (some (6, 0))), some (.inl x1), some (.inl x2)], [.inl y0], (S, d)) Q := by
  refine zwp_br rfl (fun hb => ?_) (fun hb => ?_)
  · show zwp 55 (18, [some (.inr (some (6, 0))), some (.inl x1), some (.inl x2)], [], (S, d)) Q
    replace h := h.1 (of_decide_eq_true hb)
    refine zwp_blk 3 (c' := (23, [some (.inr (some (6, 0))), some (.inl x1), some (.inl x2)], [.inl x1, .inr (some (7, 0))], (S, d))) rfl ?_
    obtain ⟨j1, ej1, lj1, h⟩ := h
    refine zwp_aldx (n := 4) (k := 8) (pc' := 24) (ls := [some (.inr (some (6, 0))), some (.inl x1), some (.inl x2)]) (r := []) (t := (S, d)) rfl ej1 lj1 (by decide) (zok_8 lj1) ?_
    refine zwp_blk 2 (c' := (26, [some (.inr (some (6, 0))), some (.inl x1), some (.inl x2)], [.inl (nI 2), .inl x2, .inr (some (8, j1))], (S, d))) rfl ?_
    obtain ⟨j2, ej2, lj2, h⟩ := h
    refine zwp_stx (n := 40) (cd := 512) (i := j1) (v := (nI 2)) (pc' := 27) (ls := [some (.inr (some (6, 0))), some (.inl x1), some (.inl x2)]) (r := []) (t := (S, d)) rfl ej2 lj2 (by decide) ?_
    exact zwp_end rfl h
  · show zwp 55 (10, [some (.inr (some (6, 0))), some (.inl x1), some (.inl x2)], [], (S, d)) Q
    replace h := h.2 (of_decide_eq_false hb)
    exact zwp_end rfl h
-- 56 PageKeeper$Locks.othersHold
theorem w56_0 {S : zS} {d : Nat} {Q : zO → zT → Prop} {x1 : Int32} {x2 : Int32} {x3 : Int32} (h : zwp 56 (3, [some (.inr (some (6, 0))), some (.inl x1), some (.inl x2), some (.inl x3), some (.inl (nI 0))], [], (S, d)) Q) : zwp 56 (0, [some (.inr (some (6, 0))), some (.inl x1), some (.inl x2), some (.inl x3), none], [], (S, d)) Q := by
  refine zwp_blk 2 (c' := (3, [some (.inr (some (6, 0))), some (.inl x1), some (.inl x2), some (.inl x3), some (.inl (nI 0))], [], (S, d))) rfl ?_
  exact h
theorem w56_3 {S : zS} {d : Nat} {Q : zO → zT → Prop} {x1 : Int32} {x2 : Int32} {x3 : Int32} {x4 : Int32} (h : ((nI 4) ≤ x4 → Q (.inl (some (.inl (nI 0)))) (S, d)) ∧ (¬ (nI 4) ≤ x4 → (x4 = x1 → zwp 56 (3, [some (.inr (some (6, 0))), some (.inl x1), some (.inl x2), some (.inl x3), some (.inl (x4 + nI 1))], [], (S, d)) Q) ∧ (¬ x4 = x1 → ∃ j1 : Nat, x4 = nI j1 ∧ j1 < 4 ∧ (∃ j2 : Nat, x2 = nI j2 ∧ j2 < 40 ∧ (((S 512 j1 j2) < x3 → zwp 56 (3, [some (.inr (some (6, 0))), some (.inl x1), some (.inl x2), some (.inl x3), some (.inl (x4 + nI 1))], [], (S, d)) Q) ∧ (¬ (S 512 j1 j2) < x3 → Q (.inl (some (.inl (nI 1)))) (S, d))))))) : zwp 56 (3, [some (.inr (some (6, 0))), some (.inl x1), some (.inl x2), some (.inl x3), some (.inl x4)], [], (S, d)) Q := by
  refine zwp_blk 2 (c' := (6, [some (.inr (some (6, 0))), some (.inl x1), some (.inl x2), some (.inl x3), some (.inl x4)], [.inl (nI 4), .inl x4], (S, d))) rfl ?_
  refine zwp_br rfl (fun hb => ?_) (fun hb => ?_)
  · show zwp 56 (36, [some (.inr (some (6, 0))), some (.inl x1), some (.inl x2), some (.inl x3), some (.inl x4)], [], (S, d)) Q
    replace h := h.1 (of_decide_eq_true hb)
    refine zwp_blk 1 (c' := (37, [some (.inr (some (6, 0))), some (.inl x1), some (.inl x2), some (.inl x3), some (.inl x4)], [.inl (nI 0)], (S, d))) rfl ?_
    exact zwp_ret01 (x := nI 0) rfl (by decide) h
  · show zwp 56 (9, [some (.inr (some (6, 0))), some (.inl x1), some (.inl x2), some (.inl x3), some (.inl x4)], [], (S, d)) Q
    replace h := h.2 (of_decide_eq_false hb)
    refine zwp_blk 2 (c' := (12, [some (.inr (some (6, 0))), some (.inl x1), some (.inl x2), some (.inl x3), some (.inl x4)], [.inl x1, .inl x4], (S, d))) rfl ?_
    refine zwp_br rfl (fun hb => ?_) (fun hb => ?_)
    · show zwp 56 (30, [some (.inr (some (6, 0))), some (.inl x1), some (.inl x2), some (.inl x3), some (.inl x4)], [], (S, d)) Q
      replace h := h.1 (of_decide_eq_true hb)
      refine zwp_blk 2 (c' := (3, [some (.inr (some (6, 0))), some (.inl x1), some (.inl x2), some (.inl x3), some (.inl (x4 + nI 1))], [], (S, d))) rfl ?_
      exact h
    · show zwp 56 (15, [some (.inr (some (6, 0))), some (.inl x1), some (.inl x2), some (.inl x3), some (.inl x4)], [], (S, d)) Q
      replace h := h.2 (of_decide_eq_false hb)
      refine zwp_blk 3 (c' := (21, [some (.inr (some (6, 0))), some (.inl x1), some (.inl x2), some (.inl x3), some (.inl x4)], [.inl x4, .inr (some (7, 0))], (S, d))) rfl ?_
      obtain ⟨j1, ej1, lj1, h⟩ := h
      refine zwp_aldx (n := 4) (k := 8) (pc' := 22) (ls := [some (.inr (some (6, 0))), some (.inl x1), some (.inl x2), some (.inl x3), some (.inl x4)]) (r := []) (t := (S, d)) rfl ej1 lj1 (by decide) (zok_8 lj1) ?_
      refine zwp_blk 1 (c' := (23, [some (.inr (some (6, 0))), some (.inl x1), some (.inl x2), some (.inl x3), some (.inl x4)], [.inl x2, .inr (some (8, j1))], (S, d))) rfl ?_
      obtain ⟨j2, ej2, lj2, h⟩ := h
      refine zwp_ldx (n := 40) (cd := 512) (i := j1) (pc' := 24) (ls := [some (.inr (some (6, 0))), some (.inl x1), some (.inl x2), some (.inl x3), some (.inl x4)]) (r := []) (t := (S, d)) rfl ej2 lj2 (by decide) ?_
      refine zwp_blk 1 (c' := (25, [some (.inr (some (6, 0))), some (.inl x1), some (.inl x2), some (.inl x3), some (.inl x4)], [.inl x3, .inl (S 512 j1 j2)], (S, d))) rfl ?_
      refine zwp_br rfl (fun hb => ?_) (fun hb => ?_)
      · show zwp 56 (30, [some (.inr (some (6, 0))), some (.inl x1), some (.inl x2), some (.inl x3), some (.inl x4)], [], (S, d)) Q
        replace h := h.1 (of_decide_eq_true hb)
        refine zwp_blk 2 (c' := (3, [some (.inr (some (6, 0))), some (.inl x1), some (.inl x2), some (.inl x3), some (.inl (x4 + nI 1))], [], (S, d))) rfl ?_
        exact h
      · show zwp 56 (28, [some (.inr (some (6, 0))), some (.inl x1), some (.inl x2), some (.inl x3), some (.inl x4)], [], (S, d)) Q
        replace h := h.2 (of_decide_eq_false hb)
        refine zwp_blk 1 (c' := (29, [some (.inr (some (6, 0))), some (.inl x1), some (.inl x2), some (.inl x3), some (.inl x4)], [.inl (nI 1)], (S, d))) rfl ?_
        exact zwp_ret01 (x := nI 1) rfl (by decide) h
-- 57 PageKeeper$Locks.release
theorem w57_0 {S : zS} {d : Nat} {Q : zO → zT → Prop} {x1 : Int32} (h : zwp 57 (2, [some (.inr (some (6, 0))), some (.inl x1), some (.inl (nI 0))], [], (S, d)) Q) : zwp 57 (0, [some (.inr (some (6, 0))), some (.inl x1), none], [], (S, d)) Q := by
  refine zwp_blk 2 (c' := (2, [some (.inr (some (6, 0))), some (.inl x1), some (.inl (nI 0))], [], (S, d))) rfl ?_
  exact h
theorem w57_2 {S : zS} {d : Nat} {Q : zO → zT → Prop} {x1 : Int32} {x2 : Int32} (h : ((nI 40) ≤ x2 → Q (.inl none) (S, d)) ∧ (¬ (nI 40) ≤ x2 → ∃ j1 : Nat, x1 = nI j1 ∧ j1 < 4 ∧ (∃ j2 : Nat, x2 = nI j2 ∧ j2 < 40 ∧ (zwp 57 (2, [some (.inr (some (6, 0))), some (.inl x1), some (.inl (x2 + nI 1))], [], (zu S 512 j1 j2 ((nI 0)), d)) Q)))) : zwp 57 (2, [some (.inr (some (6, 0))), some (.inl x1), some (.inl x2)], [], (S, d)) Q := by
  refine zwp_blk 2 (c' := (5, [some (.inr (some (6, 0))), some (.inl x1), some (.inl x2)], [.inl (nI 40), .inl x2], (S, d))) rfl ?_
  refine zwp_br rfl (fun hb => ?_) (fun hb => ?_)
  · show zwp 57 (23, [some (.inr (some (6, 0))), some (.inl x1), some (.inl x2)], [], (S, d)) Q
    replace h := h.1 (of_decide_eq_true hb)
    exact zwp_end rfl h
  · show zwp 57 (8, [some (.inr (some (6, 0))), some (.inl x1), some (.inl x2)], [], (S, d)) Q
    replace h := h.2 (of_decide_eq_false hb)
    refine zwp_blk 3 (c' := (13, [some (.inr (some (6, 0))), some (.inl x1), some (.inl x2)], [.inl x1, .inr (some (7, 0))], (S, d))) rfl ?_
    obtain ⟨j1, ej1, lj1, h⟩ := h
    refine zwp_aldx (n := 4) (k := 8) (pc' := 14) (ls := [some (.inr (some (6, 0))), some (.inl x1), some (.inl x2)]) (r := []) (t := (S, d)) rfl ej1 lj1 (by decide) (zok_8 lj1) ?_
    refine zwp_blk 2 (c' := (16, [some (.inr (some (6, 0))), some (.inl x1), some (.inl x2)], [.inl (nI 0), .inl x2, .inr (some (8, j1))], (S, d))) rfl ?_
    obtain ⟨j2, ej2, lj2, h⟩ := h
    refine zwp_stx (n := 40) (cd := 512) (i := j1) (v := (nI 0)) (pc' := 17) (ls := [some (.inr (some (6, 0))), some (.inl x1), some (.inl x2)]) (r := []) (t := (S, d)) rfl ej2 lj2 (by decide) ?_
    refine zwp_blk 2 (c' := (2, [some (.inr (some (6, 0))), some (.inl x1), some (.inl (x2 + nI 1))], [], (zu S 512 j1 j2 ((nI 0)), d))) rfl ?_
    exact h
-- 58 PageKeeper$Locks.clearLosers
theorem w58_0 {S : zS} {d : Nat} {Q : zO → zT → Prop}  (h : zwp 58 (2, [some (.inr (some (6, 0))), some (.inl (nI 0))], [], (S, d)) Q) : zwp 58 (0, [some (.inr (some (6, 0))), none], [], (S, d)) Q := by
  refine zwp_blk 2 (c' := (2, [some (.inr (some (6, 0))), some (.inl (nI 0))], [], (S, d))) rfl ?_
  exact h
theorem w58_2 {S : zS} {d : Nat} {Q : zO → zT → Prop} {x1 : Int32} (h : ((nI 40) ≤ x1 → Q (.inl none) (S, d)) ∧ (¬ (nI 40) ≤ x1 → ∃ j1 : Nat, x1 = nI j1 ∧ j1 < 40 ∧ (zwp 58 (2, [some (.inr (some (6, 0))), some (.inl (x1 + nI 1))], [], (zu S 576 0 j1 ((nI 0)), d)) Q))) : zwp 58 (2, [some (.inr (some (6, 0))), some (.inl x1)], [], (S, d)) Q := by
  refine zwp_blk 2 (c' := (5, [some (.inr (some (6, 0))), some (.inl x1)], [.inl (nI 40), .inl x1], (S, d))) rfl ?_
  refine zwp_br rfl (fun hb => ?_) (fun hb => ?_)
  · show zwp 58 (21, [some (.inr (some (6, 0))), some (.inl x1)], [], (S, d)) Q
    replace h := h.1 (of_decide_eq_true hb)
    exact zwp_end rfl h
  · show zwp 58 (8, [some (.inr (some (6, 0))), some (.inl x1)], [], (S, d)) Q
    replace h := h.2 (of_decide_eq_false hb)
    refine zwp_blk 4 (c' := (14, [some (.inr (some (6, 0))), some (.inl x1)], [.inl (nI 0), .inl x1, .inr (some (9, 0))], (S, d))) rfl ?_
    obtain ⟨j1, ej1, lj1, h⟩ := h
    refine zwp_stx (n := 40) (cd := 576) (i := 0) (v := (nI 0)) (pc' := 15) (ls := [some (.inr (some (6, 0))), some (.inl x1)]) (r := []) (t := (S, d)) rfl ej1 lj1 (by decide) ?_
    refine zwp_blk 2 (c' := (2, [some (.inr (some (6, 0))), some (.inl (x1 + nI 1))], [], (zu S 576 0 j1 ((nI 0)), d))) rfl ?_
    exact h
-- 59 PageKeeper$Locks.releaseLoser
theorem w59_0 {S : zS} {d : Nat} {Q : zO → zT → Prop} {x1 : Int32} (h : zwp 59 (2, [some (.inr (some (6, 0))), some (.inl x1), some (.inl (nI 0))], [], (S, d)) Q) : zwp 59 (0, [some (.inr (some (6, 0))), some (.inl x1), none], [], (S, d)) Q := by
  refine zwp_blk 2 (c' := (2, [some (.inr (some (6, 0))), some (.inl x1), some (.inl (nI 0))], [], (S, d))) rfl ?_
  exact h
theorem w59_2 {S : zS} {d : Nat} {Q : zO → zT → Prop} {x1 : Int32} {x2 : Int32} (h : ((nI 40) ≤ x2 → Q (.inl none) (S, d)) ∧ (¬ (nI 40) ≤ x2 → ∃ j1 : Nat, x2 = nI j1 ∧ j1 < 40 ∧ (((S 576 0 j1) = x1 → ∃ j2 : Nat, x2 = nI j2 ∧ j2 < 40 ∧ (zwp 59 (2, [some (.inr (some (6, 0))), some (.inl x1), some (.inl (x2 + nI 1))], [], (zu S 576 0 j2 ((nI 0)), d)) Q)) ∧ (¬ (S 576 0 j1) = x1 → zwp 59 (2, [some (.inr (some (6, 0))), some (.inl x1), some (.inl (x2 + nI 1))], [], (S, d)) Q)))) : zwp 59 (2, [some (.inr (some (6, 0))), some (.inl x1), some (.inl x2)], [], (S, d)) Q := by
  refine zwp_blk 2 (c' := (5, [some (.inr (some (6, 0))), some (.inl x1), some (.inl x2)], [.inl (nI 40), .inl x2], (S, d))) rfl ?_
  refine zwp_br rfl (fun hb => ?_) (fun hb => ?_)
  · show zwp 59 (31, [some (.inr (some (6, 0))), some (.inl x1), some (.inl x2)], [], (S, d)) Q
    replace h := h.1 (of_decide_eq_true hb)
    exact zwp_end rfl h
  · show zwp 59 (8, [some (.inr (some (6, 0))), some (.inl x1), some (.inl x2)], [], (S, d)) Q
    replace h := h.2 (of_decide_eq_false hb)
    refine zwp_blk 3 (c' := (13, [some (.inr (some (6, 0))), some (.inl x1), some (.inl x2)], [.inl x2, .inr (some (9, 0))], (S, d))) rfl ?_
    obtain ⟨j1, ej1, lj1, h⟩ := h
    refine zwp_ldx (n := 40) (cd := 576) (i := 0) (pc' := 14) (ls := [some (.inr (some (6, 0))), some (.inl x1), some (.inl x2)]) (r := []) (t := (S, d)) rfl ej1 lj1 (by decide) ?_
    refine zwp_blk 1 (c' := (15, [some (.inr (some (6, 0))), some (.inl x1), some (.inl x2)], [.inl x1, .inl (S 576 0 j1)], (S, d))) rfl ?_
    refine zwp_br rfl (fun hb => ?_) (fun hb => ?_)
    · show zwp 59 (25, [some (.inr (some (6, 0))), some (.inl x1), some (.inl x2)], [], (S, d)) Q
      replace h := h.2 (zne_t hb)
      refine zwp_blk 2 (c' := (2, [some (.inr (some (6, 0))), some (.inl x1), some (.inl (x2 + nI 1))], [], (S, d))) rfl ?_
      exact h
    · show zwp 59 (18, [some (.inr (some (6, 0))), some (.inl x1), some (.inl x2)], [], (S, d)) Q
      replace h := h.1 (zne_f hb)
      refine zwp_blk 4 (c' := (24, [some (.inr (some (6, 0))), some (.inl x1), some (.inl x2)], [.inl (nI 0), .inl x2, .inr (some (9, 0))], (S, d))) rfl ?_
      obtain ⟨j2, ej2, lj2, h⟩ := h
      refine zwp_stx (n := 40) (cd := 576) (i := 0) (v := (nI 0)) (pc' := 25) (ls := [some (.inr (some (6, 0))), some (.inl x1), some (.inl x2)]) (r := []) (t := (S, d)) rfl ej2 lj2 (by decide) ?_
      refine zwp_blk 2 (c' := (2, [some (.inr (some (6, 0))), some (.inl x1), some (.inl (x2 + nI 1))], [], (zu S 576 0 j2 ((nI 0)), d))) rfl ?_
      exact h
-- 60 PageKeeper$Locks.leastLoserAbove
theorem w60_0 {S : zS} {d : Nat} {Q : zO → zT → Prop} {x1 : Int32} (h : zwp 60 (4, [some (.inr (some (6, 0))), some (.inl x1), some (.inl (nI 0)), some (.inl (nI 0)), none], [], (S, d)) Q) : zwp 60 (0, [some (.inr (some (6, 0))), some (.inl x1), none, none, none], [], (S, d)) Q := by
  refine zwp_blk 4 (c' := (4, [some (.inr (some (6, 0))), some (.inl x1), some (.inl (nI 0)), some (.inl (nI 0)), none], [], (S, d))) rfl ?_
  exact h
theorem w60_4 {S : zS} {d : Nat} {Q : zO → zT → Prop} {x1 : Int32} {x2 : Int32} {x3 : Int32} {x4 : Option zV} (h : ((nI 40) ≤ x3 → Q (.inl (some (.inl x2))) (S, d)) ∧ (¬ (nI 40) ≤ x3 → ∃ j1 : Nat, x3 = nI j1 ∧ j1 < 40 ∧ (((S 576 0 j1) ≤ x1 → zwp 60 (4, [some (.inr (some (6, 0))), some (.inl x1), some (.inl x2), some (.inl (x3 + nI 1)), some (.inl (S 576 0 j1))], [], (S, d)) Q) ∧ (¬ (S 576 0 j1) ≤ x1 → (x2 = 0 → zwp 60 (4, [some (.inr (some (6, 0))), some (.inl x1), some (.inl (S 576 0 j1)), some (.inl (x3 + nI 1)), some (.inl (S 576 0 j1))], [], (S, d)) Q) ∧ (¬ x2 = 0 → (x2 ≤ (S 576 0 j1) → zwp 60 (4, [some (.inr (some (6, 0))), some (.inl x1), some (.inl x2), some (.inl (x3 + nI 1)), some (.inl (S 576 0 j1))], [], (S, d)) Q) ∧ (¬ x2 ≤ (S 576 0 j1) → zwp 60 (4, [some (.inr (some (6, 0))), some (.inl x1), some (.inl (S 576 0 j1)), some (.inl (x3 + nI 1)), some (.inl (S 576 0 j1))], [], (S, d)) Q)))))) : zwp 60 (4, [some (.inr (some (6, 0))), some (.inl x1), some (.inl x2), some (.inl x3), x4], [], (S, d)) Q := by
  refine zwp_blk 2 (c' := (7, [some (.inr (some (6, 0))), some (.inl x1), some (.inl x2), some (.inl x3), x4], [.inl (nI 40), .inl x3], (S, d))) rfl ?_
  refine zwp_br rfl (fun hb => ?_) (fun hb => ?_)
  · show zwp 60 (43, [some (.inr (some (6, 0))), some (.inl x1), some (.inl x2), some (.inl x3), x4], [], (S, d)) Q
    replace h := h.1 (of_decide_eq_true hb)
    refine zwp_blk 1 (c' := (44, [some (.inr (some (6, 0))), some (.inl x1), some (.inl x2), some (.inl x3), x4], [.inl x2], (S, d))) rfl ?_
    exact zwp_end rfl h
  · show zwp 60 (10, [some (.inr (some (6, 0))), some (.inl x1), some (.inl x2), some (.inl x3), x4], [], (S, d)) Q
    replace h := h.2 (of_decide_eq_false hb)
    refine zwp_blk 3 (c' := (15, [some (.inr (some (6, 0))), some (.inl x1), some (.inl x2), some (.inl x3), x4], [.inl x3, .inr (some (9, 0))], (S, d))) rfl ?_
    obtain ⟨j1, ej1, lj1, h⟩ := h
    refine zwp_ldx (n := 40) (cd := 576) (i := 0) (pc' := 16) (ls := [some (.inr (some (6, 0))), some (.inl x1), some (.inl x2), some (.inl x3), x4]) (r := []) (t := (S, d)) rfl ej1 lj1 (by decide) ?_
    refine zwp_blk 3 (c' := (21, [some (.inr (some (6, 0))), some (.inl x1), some (.inl x2), some (.inl x3), some (.inl (S 576 0 j1))], [.inl x1, .inl (S 576 0 j1)], (S, d))) rfl ?_
    refine zwp_br rfl (fun hb => ?_) (fun hb => ?_)
    · show zwp 60 (37, [some (.inr (some (6, 0))), some (.inl x1), some (.inl x2), some (.inl x3), some (.inl (S 576 0 j1))], [], (S, d)) Q
      replace h := h.1 (of_decide_eq_true hb)
      refine zwp_blk 2 (c' := (4, [some (.inr (some (6, 0))), some (.inl x1), some (.inl x2), some (.inl (x3 + nI 1)), some (.inl (S 576 0 j1))], [], (S, d))) rfl ?_
      exact h
    · show zwp 60 (24, [some (.inr (some (6, 0))), some (.inl x1), some (.inl x2), some (.inl x3), some (.inl (S 576 0 j1))], [], (S, d)) Q
      replace h := h.2 (of_decide_eq_false hb)
      refine zwp_blk 1 (c' := (25, [some (.inr (some (6, 0))), some (.inl x1), some (.inl x2), some (.inl x3), some (.inl (S 576 0 j1))], [.inl x2], (S, d))) rfl ?_
      refine zwp_br rfl (fun hb => ?_) (fun hb => ?_)
      · show zwp 60 (34, [some (.inr (some (6, 0))), some (.inl x1), some (.inl x2), some (.inl x3), some (.inl (S 576 0 j1))], [], (S, d)) Q
        replace h := h.1 (of_decide_eq_true hb)
        refine zwp_blk 4 (c' := (4, [some (.inr (some (6, 0))), some (.inl x1), some (.inl (S 576 0 j1)), some (.inl (x3 + nI 1)), some (.inl (S 576 0 j1))], [], (S, d))) rfl ?_
        exact h
      · show zwp 60 (28, [some (.inr (some (6, 0))), some (.inl x1), some (.inl x2), some (.inl x3), some (.inl (S 576 0 j1))], [], (S, d)) Q
        replace h := h.2 (of_decide_eq_false hb)
        refine zwp_blk 2 (c' := (31, [some (.inr (some (6, 0))), some (.inl x1), some (.inl x2), some (.inl x3), some (.inl (S 576 0 j1))], [.inl x2, .inl (S 576 0 j1)], (S, d))) rfl ?_
        refine zwp_br rfl (fun hb => ?_) (fun hb => ?_)
        · show zwp 60 (37, [some (.inr (some (6, 0))), some (.inl x1), some (.inl x2), some (.inl x3), some (.inl (S 576 0 j1))], [], (S, d)) Q
          replace h := h.1 (of_decide_eq_true hb)
          refine zwp_blk 2 (c' := (4, [some (.inr (some (6, 0))), some (.inl x1), some (.inl x2), some (.inl (x3 + nI 1)), some (.inl (S 576 0 j1))], [], (S, d))) rfl ?_
          exact h
        · show zwp 60 (34, [some (.inr (some (6, 0))), some (.inl x1), some (.inl x2), some (.inl x3), some (.inl (S 576 0 j1))], [], (S, d)) Q
          replace h := h.2 (of_decide_eq_false hb)
          refine zwp_blk 4 (c' := (4, [some (.inr (some (6, 0))), some (.inl x1), some (.inl (S 576 0 j1)), some (.inl (x3 + nI 1)), some (.inl (S 576 0 j1))], [], (S, d))) rfl ?_
          exact h
-- 61 PageKeeper$Locks.countLosers
theorem w61_0 {S : zS} {d : Nat} {Q : zO → zT → Prop}  (h : zwp 60 (0, zent 60 [.inr (some (6, 0)), .inl (nI 0)], [], (S, d)) (zaf 61 7 [some (.inr (some (6, 0))), some (.inl (nI 0)), none] [] Q)) : zwp 61 (0, [some (.inr (some (6, 0))), none, none], [], (S, d)) Q := by
  refine zwp_blk 4 (c' := (4, [some (.inr (some (6, 0))), some (.inl (nI 0)), none], [.inl (nI 0), .inr (some (6, 0))], (S, d))) rfl ?_
  exact zwp_call rfl h
theorem w61_7 {S : zS} {d : Nat} {Q : zO → zT → Prop} {x1 : Int32} {y0 : Int32} (h : zwp 61 (8, [some (.inr (some (6, 0))), some (.inl x1), some (.inl y0)], [], (S, d)) Q) : zwp 61 (7, [some (.inr (some (6, 0))), some (.inl x1), none], [.inl y0], (S, d)) Q := by
  refine zwp_blk 1 (c' := (8, [some (.inr (some (6, 0))), some (.inl x1), some (.inl y0)], [], (S, d))) rfl ?_
  exact h
theorem w61_8 {S : zS} {d : Nat} {Q : zO → zT → Prop} {x1 : Int32} {x2 : Int32} (h : ((nI 40) ≤ x1 → Q (.inl (some (.inl x1))) (S, d)) ∧ (¬ (nI 40) ≤ x1 → (x2 = 0 → Q (.inl (some (.inl x1))) (S, d)) ∧ (¬ x2 = 0 → zwp 60 (0, zent 60 [.inr (some (6, 0)), .inl x2], [], (S, d)) (zaf 61 26 [some (.inr (some (6, 0))), some (.inl (x1 + nI 1)), some (.inl x2)] [] Q)))) : zwp 61 (8, [some (.inr (some (6, 0))), some (.inl x1), some (.inl x2)], [], (S, d)) Q := by
  refine zwp_blk 2 (c' := (11, [some (.inr (some (6, 0))), some (.inl x1), some (.inl x2)], [.inl (nI 40), .inl x1], (S, d))) rfl ?_
  refine zwp_br rfl (fun hb => ?_) (fun hb => ?_)
  · show zwp 61 (30, [some (.inr (some (6, 0))), some (.inl x1), some (.inl x2)], [], (S, d)) Q
    replace h := h.1 (of_decide_eq_true hb)
    refine zwp_blk 1 (c' := (31, [some (.inr (some (6, 0))), some (.inl x1), some (.inl x2)], [.inl x1], (S, d))) rfl ?_
    exact zwp_end rfl h
  · show zwp 61 (14, [some (.inr (some (6, 0))), some (.inl x1), some (.inl x2)], [], (S, d)) Q
    replace h := h.2 (of_decide_eq_false hb)
    refine zwp_blk 1 (c' := (15, [some (.inr (some (6, 0))), some (.inl x1), some (.inl x2)], [.inl x2], (S, d))) rfl ?_
    refine zwp_br rfl (fun hb => ?_) (fun hb => ?_)
    · show zwp 61 (30, [some (.inr (some (6, 0))), some (.inl x1), some (.inl x2)], [], (S, d)) Q
      replace h := h.1 (of_decide_eq_true hb)
      refine zwp_blk 1 (c' := (31, [some (.inr (some (6, 0))), some (.inl x1), some (.inl x2)], [.inl x1], (S, d))) rfl ?_
      exact zwp_end rfl h
    · show zwp 61 (18, [some (.inr (some (6, 0))), some (.inl x1), some (.inl x2)], [], (S, d)) Q
      replace h := h.2 (of_decide_eq_false hb)
      refine zwp_blk 3 (c' := (23, [some (.inr (some (6, 0))), some (.inl (x1 + nI 1)), some (.inl x2)], [.inl x2, .inr (some (6, 0))], (S, d))) rfl ?_
      exact zwp_call rfl h
theorem w61_26 {S : zS} {d : Nat} {Q : zO → zT → Prop} {x1 : Int32} {x2 : Int32} {y0 : Int32} (h : zwp 61 (8, [some (.inr (some (6, 0))), some (.inl x1), some (.inl y0)], [], (S, d)) Q) : zwp 61 (26, [some (.inr (some (6, 0))), some (.inl x1), some (.inl x2)], [.inl y0], (S, d)) Q := by
  refine zwp_blk 2 (c' := (8, [some (.inr (some (6, 0))), some (.inl x1), some (.inl y0)], [], (S, d))) rfl ?_
  exact h
-- 62 PageKeeper$Page.forgetLogged
theorem w62_0 {S : zS} {d : Nat} {Q : zO → zT → Prop} {x0 : Nat} (h : zwp 64 (0, zent 64 [.inr (some (12, x0))], [], (S, d)) (zaf 62 7 [some (.inr (some (11, x0)))] [] Q)) : zwp 62 (0, [some (.inr (some (11, x0)))], [], (S, d)) Q := by
  refine zwp_blk 2 (c' := (4, [some (.inr (some (11, x0)))], [.inr (some (12, x0))], (S, d))) rfl ?_
  exact zwp_call rfl h
theorem w62_7 {S : zS} {d : Nat} {Q : zO → zT → Prop} {x0 : Nat} (h : Q (.inl none) (zu (zu S 705 x0 0 (nI 0)) 706 x0 0 (nI 0), d)) : zwp 62 (7, [some (.inr (some (11, x0)))], [], (S, d)) Q := by
  refine zwp_blk 6 (c' := (17, [some (.inr (some (11, x0)))], [], (zu (zu S 705 x0 0 (nI 0)) 706 x0 0 (nI 0), d))) rfl ?_
  exact zwp_end rfl h
-- 63 PageKeeper$Page.forgetStored
theorem w63_0 {S : zS} {d : Nat} {Q : zO → zT → Prop} {x0 : Nat} (h : Q (.inl none) (zu (zu (zu S 707 x0 0 (nI 0)) 708 x0 0 (nI 0)) 709 x0 0 (zint (-1)), d)) : zwp 63 (0, [some (.inr (some (11, x0)))], [], (S, d)) Q := by
  refine zwp_blk 5 (c' := (7, [some (.inr (some (11, x0)))], [.inl (nI 0), .inr (some (11, x0))], (zu S 707 x0 0 (nI 0), d))) rfl ?_
  refine zwp_grd (c' := (10, [some (.inr (some (11, x0)))], [], (zu (zu S 707 x0 0 (nI 0)) 708 x0 0 (nI 0), d))) rfl (by decide) ?_
  refine zwp_blk 3 (c' := (15, [some (.inr (some (11, x0)))], [], (zu (zu (zu S 707 x0 0 (nI 0)) 708 x0 0 (nI 0)) 709 x0 0 (zint (-1)), d))) rfl ?_
  exact zwp_end rfl h
-- 64 PageKeeper$Contents.becomeEmptyLeaf
theorem w64_0 {S : zS} {d : Nat} {Q : zO → zT → Prop} {x0 : Nat} (h : Q (.inl none) (zu (zu S 768 x0 0 (nI 0)) 769 x0 0 (nI 0), d)) : zwp 64 (0, [some (.inr (some (12, x0)))], [], (S, d)) Q := by
  refine zwp_blk 2 (c' := (2, [some (.inr (some (12, x0)))], [.inl (nI 0), .inr (some (12, x0))], (S, d))) rfl ?_
  refine zwp_grd (c' := (5, [some (.inr (some (12, x0)))], [], (zu S 768 x0 0 (nI 0), d))) rfl (by decide) ?_
  refine zwp_blk 3 (c' := (10, [some (.inr (some (12, x0)))], [], (zu (zu S 768 x0 0 (nI 0)) 769 x0 0 (nI 0), d))) rfl ?_
  exact zwp_end rfl h
-- 65 PageKeeper$Contents.becomeWhatBrings
theorem w65_0 {S : zS} {d : Nat} {Q : zO → zT → Prop} {x0 : Nat} {x1 : Nat} (h : ((S 204 x1 0) = 0 ∨ (S 204 x1 0) = 1) ∧ (∃ j1 : Nat, nI 0 = nI j1 ∧ j1 < 4 ∧ (∃ j2 : Nat, nI 0 = nI j2 ∧ j2 < 4 ∧ (∃ j3 : Nat, nI 1 = nI j3 ∧ j3 < 4 ∧ (∃ j4 : Nat, nI 1 = nI j4 ∧ j4 < 4 ∧ (Q (.inl none) (zu (zu (zu (zu (zu (zu S 768 x0 0 (S 204 x1 0)) 769 x0 0 (nI 2)) 832 x0 j1 ((S 200 x1 0))) 896 x0 j2 ((S 201 x1 0))) 832 x0 j3 ((S 202 x1 0))) 896 x0 j4 ((S 203 x1 0)), d))))))) : zwp 65 (0, [some (.inr (some (12, x0))), some (.inr (some (3, x1)))], [], (S, d)) Q := by
  refine zwp_blk 3 (c' := (5, [some (.inr (some (12, x0))), some (.inr (some (3, x1)))], [.inl (S 204 x1 0), .inr (some (12, x0))], (S, d))) rfl ?_
  refine zwp_grd (c' := (8, [some (.inr (some (12, x0))), some (.inr (some (3, x1)))], [], (zu S 768 x0 0 (S 204 x1 0), d))) rfl (decide_eq_true h.1) ?_
  replace h := h.2
  refine zwp_blk 8 (c' := (22, [some (.inr (some (12, x0))), some (.inr (some (3, x1)))], [.inl (S 200 x1 0), .inl (nI 0), .inr (some (13, x0))], (zu (zu S 768 x0 0 (S 204 x1 0)) 769 x0 0 (nI 2), d))) rfl ?_
  obtain ⟨j1, ej1, lj1, h⟩ := h
  refine zwp_stx (n := 4) (cd := 832) (i := x0) (v := (S 200 x1 0)) (pc' := 23) (ls := [some (.inr (some (12, x0))), some (.inr (some (3, x1)))]) (r := []) (t := (zu (zu S 768 x0 0 (S 204 x1 0)) 769 x0 0 (nI 2), d)) rfl ej1 lj1 (by decide) ?_
  refine zwp_blk 5 (c' := (32, [some (.inr (some (12, x0))), some (.inr (some (3, x1)))], [.inl (S 201 x1 0), .inl (nI 0), .inr (some (14, x0))], (zu (zu (zu S 768 x0 0 (S 204 x1 0)) 769 x0 0 (nI 2)) 832 x0 j1 ((S 200 x1 0)), d))) rfl ?_
  obtain ⟨j2, ej2, lj2, h⟩ := h
  refine zwp_stx (n := 4) (cd := 896) (i := x0) (v := (S 201 x1 0)) (pc' := 33) (ls := [some (.inr (some (12, x0))), some (.inr (some (3, x1)))]) (r := []) (t := (zu (zu (zu S 768 x0 0 (S 204 x1 0)) 769 x0 0 (nI 2)) 832 x0 j1 ((S 200 x1 0)), d)) rfl ej2 lj2 (by decide) ?_
  refine zwp_blk 5 (c' := (42, [some (.inr (some (12, x0))), some (.inr (some (3, x1)))], [.inl (S 202 x1 0), .inl (nI 1), .inr (some (13, x0))], (zu (zu (zu (zu S 768 x0 0 (S 204 x1 0)) 769 x0 0 (nI 2)) 832 x0 j1 ((S 200 x1 0))) 896 x0 j2 ((S 201 x1 0)), d))) rfl ?_
  obtain ⟨j3, ej3, lj3, h⟩ := h
  refine zwp_stx (n := 4) (cd := 832) (i := x0) (v := (S 202 x1 0)) (pc' := 43) (ls := [some (.inr (some (12, x0))), some (.inr (some (3, x1)))]) (r := []) (t := (zu (zu (zu (zu S 768 x0 0 (S 204 x1 0)) 769 x0 0 (nI 2)) 832 x0 j1 ((S 200 x1 0))) 896 x0 j2 ((S 201 x1 0)), d)) rfl ej3 lj3 (by decide) ?_
  refine zwp_blk 5 (c' := (52, [some (.inr (some (12, x0))), some (.inr (some (3, x1)))], [.inl (S 203 x1 0), .inl (nI 1), .inr (some (14, x0))], (zu (zu (zu (zu (zu S 768 x0 0 (S 204 x1 0)) 769 x0 0 (nI 2)) 832 x0 j1 ((S 200 x1 0))) 896 x0 j2 ((S 201 x1 0))) 832 x0 j3 ((S 202 x1 0)), d))) rfl ?_
  obtain ⟨j4, ej4, lj4, h⟩ := h
  refine zwp_stx (n := 4) (cd := 896) (i := x0) (v := (S 203 x1 0)) (pc' := 53) (ls := [some (.inr (some (12, x0))), some (.inr (some (3, x1)))]) (r := []) (t := (zu (zu (zu (zu (zu S 768 x0 0 (S 204 x1 0)) 769 x0 0 (nI 2)) 832 x0 j1 ((S 200 x1 0))) 896 x0 j2 ((S 201 x1 0))) 832 x0 j3 ((S 202 x1 0)), d)) rfl ej4 lj4 (by decide) ?_
  exact zwp_end rfl h
-- 66 PageKeeper$Contents.headAt
theorem w66_0 {S : zS} {d : Nat} {Q : zO → zT → Prop} {x0 : Nat} {x1 : Int32} (h : (x1 < 0 → Q (.inl (some (.inl (zint (-1))))) (S, d)) ∧ (¬ x1 < 0 → ((S 769 x0 0) ≤ x1 → Q (.inl (some (.inl (zint (-1))))) (S, d)) ∧ (¬ (S 769 x0 0) ≤ x1 → ∃ j1 : Nat, x1 = nI j1 ∧ j1 < 4 ∧ (Q (.inl (some (.inl (S 832 x0 j1)))) (S, d))))) : zwp 66 (0, [some (.inr (some (12, x0))), some (.inl x1)], [], (S, d)) Q := by
  refine zwp_blk 1 (c' := (1, [some (.inr (some (12, x0))), some (.inl x1)], [.inl x1], (S, d))) rfl ?_
  refine zwp_br rfl (fun hb => ?_) (fun hb => ?_)
  · show zwp 66 (21, [some (.inr (some (12, x0))), some (.inl x1)], [], (S, d)) Q
    replace h := h.1 (of_decide_eq_true hb)
    refine zwp_blk 1 (c' := (22, [some (.inr (some (12, x0))), some (.inl x1)], [.inl (zint (-1))], (S, d))) rfl ?_
    exact zwp_end rfl h
  · show zwp 66 (4, [some (.inr (some (12, x0))), some (.inl x1)], [], (S, d)) Q
    replace h := h.2 (of_decide_eq_false hb)
    refine zwp_blk 3 (c' := (9, [some (.inr (some (12, x0))), some (.inl x1)], [.inl (S 769 x0 0), .inl x1], (S, d))) rfl ?_
    refine zwp_br rfl (fun hb => ?_) (fun hb => ?_)
    · show zwp 66 (21, [some (.inr (some (12, x0))), some (.inl x1)], [], (S, d)) Q
      replace h := h.1 (of_decide_eq_true hb)
      refine zwp_blk 1 (c' := (22, [some (.inr (some (12, x0))), some (.inl x1)], [.inl (zint (-1))], (S, d))) rfl ?_
      exact zwp_end rfl h
    · show zwp 66 (12, [some (.inr (some (12, x0))), some (.inl x1)], [], (S, d)) Q
      replace h := h.2 (of_decide_eq_false hb)
      refine zwp_blk 3 (c' := (17, [some (.inr (some (12, x0))), some (.inl x1)], [.inl x1, .inr (some (13, x0))], (S, d))) rfl ?_
      obtain ⟨j1, ej1, lj1, h⟩ := h
      refine zwp_ldx (n := 4) (cd := 832) (i := x0) (pc' := 18) (ls := [some (.inr (some (12, x0))), some (.inl x1)]) (r := []) (t := (S, d)) rfl ej1 lj1 (by decide) ?_
      refine zwp_blk 1 (c' := (22, [some (.inr (some (12, x0))), some (.inl x1)], [.inl (S 832 x0 j1)], (S, d))) rfl ?_
      exact zwp_end rfl h
-- 67 PageKeeper$Contents.tailAt
theorem w67_0 {S : zS} {d : Nat} {Q : zO → zT → Prop} {x0 : Nat} {x1 : Int32} (h : ((S 768 x0 0) = 0 → zwp 67 (20, [some (.inr (some (12, x0))), some (.inl x1), none], [.inl (S 769 x0 0)], (S, d)) Q) ∧ (¬ (S 768 x0 0) = 0 → zwp 67 (20, [some (.inr (some (12, x0))), some (.inl x1), none], [.inl ((S 769 x0 0) - (nI 1))], (S, d)) Q)) : zwp 67 (0, [some (.inr (some (12, x0))), some (.inl x1), none], [], (S, d)) Q := by
  refine zwp_blk 2 (c' := (4, [some (.inr (some (12, x0))), some (.inl x1), none], [.inl (S 768 x0 0)], (S, d))) rfl ?_
  refine zwp_br rfl (fun hb => ?_) (fun hb => ?_)
  · show zwp 67 (16, [some (.inr (some (12, x0))), some (.inl x1), none], [], (S, d)) Q
    replace h := h.1 (of_decide_eq_true hb)
    refine zwp_blk 2 (c' := (20, [some (.inr (some (12, x0))), some (.inl x1), none], [.inl (S 769 x0 0)], (S, d))) rfl ?_
    exact h
  · show zwp 67 (7, [some (.inr (some (12, x0))), some (.inl x1), none], [], (S, d)) Q
    replace h := h.2 (of_decide_eq_false hb)
    refine zwp_blk 5 (c' := (20, [some (.inr (some (12, x0))), some (.inl x1), none], [.inl ((S 769 x0 0) - (nI 1))], (S, d))) rfl ?_
    exact h
theorem w67_20 {S : zS} {d : Nat} {Q : zO → zT → Prop} {x0 : Nat} {x1 : Int32} {y0 : Int32} (h : (x1 < 0 → Q (.inl (some (.inl (zint (-1))))) (S, d)) ∧ (¬ x1 < 0 → (y0 ≤ x1 → Q (.inl (some (.inl (zint (-1))))) (S, d)) ∧ (¬ y0 ≤ x1 → ∃ j1 : Nat, x1 = nI j1 ∧ j1 < 4 ∧ (Q (.inl (some (.inl (S 896 x0 j1)))) (S, d))))) : zwp 67 (20, [some (.inr (some (12, x0))), some (.inl x1), none], [.inl y0], (S, d)) Q := by
  refine zwp_blk 2 (c' := (22, [some (.inr (some (12, x0))), some (.inl x1), some (.inl y0)], [.inl x1], (S, d))) rfl ?_
  refine zwp_br rfl (fun hb => ?_) (fun hb => ?_)
  · show zwp 67 (39, [some (.inr (some (12, x0))), some (.inl x1), some (.inl y0)], [], (S, d)) Q
    replace h := h.1 (of_decide_eq_true hb)
    refine zwp_blk 1 (c' := (40, [some (.inr (some (12, x0))), some (.inl x1), some (.inl y0)], [.inl (zint (-1))], (S, d))) rfl ?_
    exact zwp_end rfl h
  · show zwp 67 (25, [some (.inr (some (12, x0))), some (.inl x1), some (.inl y0)], [], (S, d)) Q
    replace h := h.2 (of_decide_eq_false hb)
    refine zwp_blk 2 (c' := (27, [some (.inr (some (12, x0))), some (.inl x1), some (.inl y0)], [.inl y0, .inl x1], (S, d))) rfl ?_
    refine zwp_br rfl (fun hb => ?_) (fun hb => ?_)
    · show zwp 67 (39, [some (.inr (some (12, x0))), some (.inl x1), some (.inl y0)], [], (S, d)) Q
      replace h := h.1 (of_decide_eq_true hb)
      refine zwp_blk 1 (c' := (40, [some (.inr (some (12, x0))), some (.inl x1), some (.inl y0)], [.inl (zint (-1))], (S, d))) rfl ?_
      exact zwp_end rfl h
    · show zwp 67 (30, [some (.inr (some (12, x0))), some (.inl x1), some (.inl y0)], [], (S, d)) Q
      replace h := h.2 (of_decide_eq_false hb)
      refine zwp_blk 3 (c' := (35, [some (.inr (some (12, x0))), some (.inl x1), some (.inl y0)], [.inl x1, .inr (some (14, x0))], (S, d))) rfl ?_
      obtain ⟨j1, ej1, lj1, h⟩ := h
      refine zwp_ldx (n := 4) (cd := 896) (i := x0) (pc' := 36) (ls := [some (.inr (some (12, x0))), some (.inl x1), some (.inl y0)]) (r := []) (t := (S, d)) rfl ej1 lj1 (by decide) ?_
      refine zwp_blk 1 (c' := (40, [some (.inr (some (12, x0))), some (.inl x1), some (.inl y0)], [.inl (S 896 x0 j1)], (S, d))) rfl ?_
      exact zwp_end rfl h
-- 68 PageKeeper$Contents.indexOf
theorem w68_0 {S : zS} {d : Nat} {Q : zO → zT → Prop} {x0 : Nat} {x1 : Int32} (h : zwp 68 (2, [some (.inr (some (12, x0))), some (.inl x1), some (.inl (nI 0))], [], (S, d)) Q) : zwp 68 (0, [some (.inr (some (12, x0))), some (.inl x1), none], [], (S, d)) Q := by
  refine zwp_blk 2 (c' := (2, [some (.inr (some (12, x0))), some (.inl x1), some (.inl (nI 0))], [], (S, d))) rfl ?_
  exact h
theorem w68_2 {S : zS} {d : Nat} {Q : zO → zT → Prop} {x0 : Nat} {x1 : Int32} {x2 : Int32} (h : ((S 769 x0 0) ≤ x2 → Q (.inl (some (.inl (zint (-1))))) (S, d)) ∧ (¬ (S 769 x0 0) ≤ x2 → ∃ j1 : Nat, x2 = nI j1 ∧ j1 < 4 ∧ (((S 832 x0 j1) = x1 → Q (.inl (some (.inl x2))) (S, d)) ∧ (¬ (S 832 x0 j1) = x1 → zwp 68 (2, [some (.inr (some (12, x0))), some (.inl x1), some (.inl (x2 + nI 1))], [], (S, d)) Q)))) : zwp 68 (2, [some (.inr (some (12, x0))), some (.inl x1), some (.inl x2)], [], (S, d)) Q := by
  refine zwp_blk 3 (c' := (7, [some (.inr (some (12, x0))), some (.inl x1), some (.inl x2)], [.inl (S 769 x0 0), .inl x2], (S, d))) rfl ?_
  refine zwp_br rfl (fun hb => ?_) (fun hb => ?_)
  · show zwp 68 (28, [some (.inr (some (12, x0))), some (.inl x1), some (.inl x2)], [], (S, d)) Q
    replace h := h.1 (of_decide_eq_true hb)
    refine zwp_blk 1 (c' := (29, [some (.inr (some (12, x0))), some (.inl x1), some (.inl x2)], [.inl (zint (-1))], (S, d))) rfl ?_
    exact zwp_end rfl h
  · show zwp 68 (10, [some (.inr (some (12, x0))), some (.inl x1), some (.inl x2)], [], (S, d)) Q
    replace h := h.2 (of_decide_eq_false hb)
    refine zwp_blk 3 (c' := (15, [some (.inr (some (12, x0))), some (.inl x1), some (.inl x2)], [.inl x2, .inr (some (13, x0))], (S, d))) rfl ?_
    obtain ⟨j1, ej1, lj1, h⟩ := h
    refine zwp_ldx (n := 4) (cd := 832) (i := x0) (pc' := 16) (ls := [some (.inr (some (12, x0))), some (.inl x1), some (.inl x2)]) (r := []) (t := (S, d)) rfl ej1 lj1 (by decide) ?_
    refine zwp_blk 1 (c' := (17, [some (.inr (some (12, x0))), some (.inl x1), some (.inl x2)], [.inl x1, .inl (S 832 x0 j1)], (S, d))) rfl ?_
    refine zwp_br rfl (fun hb => ?_) (fun hb => ?_)
    · show zwp 68 (22, [some (.inr (some (12, x0))), some (.inl x1), some (.inl x2)], [], (S, d)) Q
      replace h := h.2 (zne_t hb)
      refine zwp_blk 2 (c' := (2, [some (.inr (some (12, x0))), some (.inl x1), some (.inl (x2 + nI 1))], [], (S, d))) rfl ?_
      exact h
    · show zwp 68 (20, [some (.inr (some (12, x0))), some (.inl x1), some (.inl x2)], [], (S, d)) Q
      replace h := h.1 (zne_f hb)
      refine zwp_blk 1 (c' := (21, [some (.inr (some (12, x0))), some (.inl x1), some (.inl x2)], [.inl x2], (S, d))) rfl ?_
      exact zwp_end rfl h
-- 69 PageKeeper$Contents.childFor
theorem w69_0 {S : zS} {d : Nat} {Q : zO → zT → Prop} {x0 : Nat} {x1 : Int32} (h : zwp 69 (2, [some (.inr (some (12, x0))), some (.inl x1), some (.inl (nI 0))], [], (S, d)) Q) : zwp 69 (0, [some (.inr (some (12, x0))), some (.inl x1), none], [], (S, d)) Q := by
  refine zwp_blk 2 (c' := (2, [some (.inr (some (12, x0))), some (.inl x1), some (.inl (nI 0))], [], (S, d))) rfl ?_
  exact h
theorem w69_2 {S : zS} {d : Nat} {Q : zO → zT → Prop} {x0 : Nat} {x1 : Int32} {x2 : Int32} (h : (((S 769 x0 0) - (nI 1)) ≤ x2 → ∃ j1 : Nat, x2 = nI j1 ∧ j1 < 4 ∧ (Q (.inl (some (.inl (S 832 x0 j1)))) (S, d))) ∧ (¬ ((S 769 x0 0) - (nI 1)) ≤ x2 → ∃ j2 : Nat, x2 = nI j2 ∧ j2 < 4 ∧ ((x1 < (S 896 x0 j2) → ∃ j3 : Nat, x2 = nI j3 ∧ j3 < 4 ∧ (Q (.inl (some (.inl (S 832 x0 j3)))) (S, d))) ∧ (¬ x1 < (S 896 x0 j2) → zwp 69 (2, [some (.inr (some (12, x0))), some (.inl x1), some (.inl (x2 + nI 1))], [], (S, d)) Q)))) : zwp 69 (2, [some (.inr (some (12, x0))), some (.inl x1), some (.inl x2)], [], (S, d)) Q := by
  refine zwp_blk 5 (c' := (9, [some (.inr (some (12, x0))), some (.inl x1), some (.inl x2)], [.inl ((S 769 x0 0) - (nI 1)), .inl x2], (S, d))) rfl ?_
  refine zwp_br rfl (fun hb => ?_) (fun hb => ?_)
  · show zwp 69 (28, [some (.inr (some (12, x0))), some (.inl x1), some (.inl x2)], [], (S, d)) Q
    replace h := h.1 (of_decide_eq_true hb)
    refine zwp_blk 3 (c' := (33, [some (.inr (some (12, x0))), some (.inl x1), some (.inl x2)], [.inl x2, .inr (some (13, x0))], (S, d))) rfl ?_
    obtain ⟨j1, ej1, lj1, h⟩ := h
    refine zwp_ldx (n := 4) (cd := 832) (i := x0) (pc' := 34) (ls := [some (.inr (some (12, x0))), some (.inl x1), some (.inl x2)]) (r := []) (t := (S, d)) rfl ej1 lj1 (by decide) ?_
    exact zwp_end rfl h
  · show zwp 69 (12, [some (.inr (some (12, x0))), some (.inl x1), some (.inl x2)], [], (S, d)) Q
    replace h := h.2 (of_decide_eq_false hb)
    refine zwp_blk 3 (c' := (17, [some (.inr (some (12, x0))), some (.inl x1), some (.inl x2)], [.inl x2, .inr (some (14, x0))], (S, d))) rfl ?_
    obtain ⟨j2, ej2, lj2, h⟩ := h
    refine zwp_ldx (n := 4) (cd := 896) (i := x0) (pc' := 18) (ls := [some (.inr (some (12, x0))), some (.inl x1), some (.inl x2)]) (r := []) (t := (S, d)) rfl ej2 lj2 (by decide) ?_
    refine zwp_blk 1 (c' := (19, [some (.inr (some (12, x0))), some (.inl x1), some (.inl x2)], [.inl x1, .inl (S 896 x0 j2)], (S, d))) rfl ?_
    refine zwp_br rfl (fun hb => ?_) (fun hb => ?_)
    · show zwp 69 (28, [some (.inr (some (12, x0))), some (.inl x1), some (.inl x2)], [], (S, d)) Q
      replace h := h.1 (of_decide_eq_true hb)
      refine zwp_blk 3 (c' := (33, [some (.inr (some (12, x0))), some (.inl x1), some (.inl x2)], [.inl x2, .inr (some (13, x0))], (S, d))) rfl ?_
      obtain ⟨j3, ej3, lj3, h⟩ := h
      refine zwp_ldx (n := 4) (cd := 832) (i := x0) (pc' := 34) (ls := [some (.inr (some (12, x0))), some (.inl x1), some (.inl x2)]) (r := []) (t := (S, d)) rfl ej3 lj3 (by decide) ?_
      exact zwp_end rfl h
    · show zwp 69 (22, [some (.inr (some (12, x0))), some (.inl x1), some (.inl x2)], [], (S, d)) Q
      replace h := h.2 (of_decide_eq_false hb)
      refine zwp_blk 2 (c' := (2, [some (.inr (some (12, x0))), some (.inl x1), some (.inl (x2 + nI 1))], [], (S, d))) rfl ?_
      exact h
-- 70 PageKeeper$Contents.middleKey
theorem w70_0 {S : zS} {d : Nat} {Q : zO → zT → Prop} {x0 : Nat} (h : ((S 768 x0 0) = 0 → ∃ j1 : Nat, nI 2 = nI j1 ∧ j1 < 4 ∧ (Q (.inl (some (.inl (S 832 x0 j1)))) (S, d))) ∧ (¬ (S 768 x0 0) = 0 → ∃ j2 : Nat, nI 1 = nI j2 ∧ j2 < 4 ∧ (Q (.inl (some (.inl (S 896 x0 j2)))) (S, d)))) : zwp 70 (0, [some (.inr (some (12, x0)))], [], (S, d)) Q := by
  refine zwp_blk 2 (c' := (4, [some (.inr (some (12, x0)))], [.inl (S 768 x0 0)], (S, d))) rfl ?_
  refine zwp_br rfl (fun hb => ?_) (fun hb => ?_)
  · show zwp 70 (16, [some (.inr (some (12, x0)))], [], (S, d)) Q
    replace h := h.1 (of_decide_eq_true hb)
    refine zwp_blk 3 (c' := (21, [some (.inr (some (12, x0)))], [.inl (nI 2), .inr (some (13, x0))], (S, d))) rfl ?_
    obtain ⟨j1, ej1, lj1, h⟩ := h
    refine zwp_ldx (n := 4) (cd := 832) (i := x0) (pc' := 22) (ls := [some (.inr (some (12, x0)))]) (r := []) (t := (S, d)) rfl ej1 lj1 (by decide) ?_
    exact zwp_end rfl h
  · show zwp 70 (7, [some (.inr (some (12, x0)))], [], (S, d)) Q
    replace h := h.2 (of_decide_eq_false hb)
    refine zwp_blk 3 (c' := (12, [some (.inr (some (12, x0)))], [.inl (nI 1), .inr (some (14, x0))], (S, d))) rfl ?_
    obtain ⟨j2, ej2, lj2, h⟩ := h
    refine zwp_ldx (n := 4) (cd := 896) (i := x0) (pc' := 13) (ls := [some (.inr (some (12, x0)))]) (r := []) (t := (S, d)) rfl ej2 lj2 (by decide) ?_
    refine zwp_blk 1 (c' := (22, [some (.inr (some (12, x0)))], [.inl (S 896 x0 j2)], (S, d))) rfl ?_
    exact zwp_end rfl h
-- 71 PageKeeper$Contents.enter
theorem w71_0 {S : zS} {d : Nat} {Q : zO → zT → Prop} {x0 : Nat} {x1 : Int32} {x2 : Int32} (h : zwp 71 (2, [some (.inr (some (12, x0))), some (.inl x1), some (.inl x2), some (.inl (nI 0))], [], (S, d)) Q) : zwp 71 (0, [some (.inr (some (12, x0))), some (.inl x1), some (.inl x2), none], [], (S, d)) Q := by
  refine zwp_blk 2 (c' := (2, [some (.inr (some (12, x0))), some (.inl x1), some (.inl x2), some (.inl (nI 0))], [], (S, d))) rfl ?_
  exact h
theorem w71_2 {S : zS} {d : Nat} {Q : zO → zT → Prop} {x0 : Nat} {x1 : Int32} {x2 : Int32} {x3 : Int32} (h : ((S 769 x0 0) ≤ x3 → zwp 71 (26, [some (.inr (some (12, x0))), some (.inl x1), some (.inl x2), some (.inl x3)], [], (S, d)) Q) ∧ (¬ (S 769 x0 0) ≤ x3 → ∃ j1 : Nat, x3 = nI j1 ∧ j1 < 4 ∧ ((x1 ≤ (S 832 x0 j1) → zwp 71 (26, [some (.inr (some (12, x0))), some (.inl x1), some (.inl x2), some (.inl x3)], [], (S, d)) Q) ∧ (¬ x1 ≤ (S 832 x0 j1) → zwp 71 (2, [some (.inr (some (12, x0))), some (.inl x1), some (.inl x2), some (.inl (x3 + nI 1))], [], (S, d)) Q)))) : zwp 71 (2, [some (.inr (some (12, x0))), some (.inl x1), some (.inl x2), some (.inl x3)], [], (S, d)) Q := by
  refine zwp_blk 3 (c' := (7, [some (.inr (some (12, x0))), some (.inl x1), some (.inl x2), some (.inl x3)], [.inl (S 769 x0 0), .inl x3], (S, d))) rfl ?_
  refine zwp_br rfl (fun hb => ?_) (fun hb => ?_)
  · show zwp 71 (26, [some (.inr (some (12, x0))), some (.inl x1), some (.inl x2), some (.inl x3)], [], (S, d)) Q
    replace h := h.1 (of_decide_eq_true hb)
    exact h
  · show zwp 71 (10, [some (.inr (some (12, x0))), some (.inl x1), some (.inl x2), some (.inl x3)], [], (S, d)) Q
    replace h := h.2 (of_decide_eq_false hb)
    refine zwp_blk 3 (c' := (15, [some (.inr (some (12, x0))), some (.inl x1), some (.inl x2), some (.inl x3)], [.inl x3, .inr (some (13, x0))], (S, d))) rfl ?_
    obtain ⟨j1, ej1, lj1, h⟩ := h
    refine zwp_ldx (n := 4) (cd := 832) (i := x0) (pc' := 16) (ls := [some (.inr (some (12, x0))), some (.inl x1), some (.inl x2), some (.inl x3)]) (r := []) (t := (S, d)) rfl ej1 lj1 (by decide) ?_
    refine zwp_blk 1 (c' := (17, [some (.inr (some (12, x0))), some (.inl x1), some (.inl x2), some (.inl x3)], [.inl x1, .inl (S 832 x0 j1)], (S, d))) rfl ?_
    refine zwp_br rfl (fun hb => ?_) (fun hb => ?_)
    · show zwp 71 (26, [some (.inr (some (12, x0))), some (.inl x1), some (.inl x2), some (.inl x3)], [], (S, d)) Q
      replace h := h.1 (of_decide_eq_true hb)
      exact h
    · show zwp 71 (20, [some (.inr (some (12, x0))), some (.inl x1), some (.inl x2), some (.inl x3)], [], (S, d)) Q
      replace h := h.2 (of_decide_eq_false hb)
      refine zwp_blk 2 (c' := (2, [some (.inr (some (12, x0))), some (.inl x1), some (.inl x2), some (.inl (x3 + nI 1))], [], (S, d))) rfl ?_
      exact h
theorem w71_26 {S : zS} {d : Nat} {Q : zO → zT → Prop} {x0 : Nat} {x1 : Int32} {x2 : Int32} {x3 : Int32} (h : ((S 769 x0 0) ≤ x3 → zwp 71 (54, [some (.inr (some (12, x0))), some (.inl x1), some (.inl x2), some (.inl x3)], [], (S, d)) Q) ∧ (¬ (S 769 x0 0) ≤ x3 → ∃ j1 : Nat, x3 = nI j1 ∧ j1 < 4 ∧ (((S 832 x0 j1) = x1 → ∃ j2 : Nat, x3 = nI j2 ∧ j2 < 4 ∧ (Q (.inl none) (zu S 896 x0 j2 x2, d))) ∧ (¬ (S 832 x0 j1) = x1 → zwp 71 (54, [some (.inr (some (12, x0))), some (.inl x1), some (.inl x2), some (.inl x3)], [], (S, d)) Q)))) : zwp 71 (26, [some (.inr (some (12, x0))), some (.inl x1), some (.inl x2), some (.inl x3)], [], (S, d)) Q := by
  refine zwp_blk 3 (c' := (31, [some (.inr (some (12, x0))), some (.inl x1), some (.inl x2), some (.inl x3)], [.inl (S 769 x0 0), .inl x3], (S, d))) rfl ?_
  refine zwp_br rfl (fun hb => ?_) (fun hb => ?_)
  · show zwp 71 (54, [some (.inr (some (12, x0))), some (.inl x1), some (.inl x2), some (.inl x3)], [], (S, d)) Q
    replace h := h.1 (of_decide_eq_true hb)
    exact h
  · show zwp 71 (34, [some (.inr (some (12, x0))), some (.inl x1), some (.inl x2), some (.inl x3)], [], (S, d)) Q
    replace h := h.2 (of_decide_eq_false hb)
    refine zwp_blk 3 (c' := (39, [some (.inr (some (12, x0))), some (.inl x1), some (.inl x2), some (.inl x3)], [.inl x3, .inr (some (13, x0))], (S, d))) rfl ?_
    obtain ⟨j1, ej1, lj1, h⟩ := h
    refine zwp_ldx (n := 4) (cd := 832) (i := x0) (pc' := 40) (ls := [some (.inr (some (12, x0))), some (.inl x1), some (.inl x2), some (.inl x3)]) (r := []) (t := (S, d)) rfl ej1 lj1 (by decide) ?_
    refine zwp_blk 1 (c' := (41, [some (.inr (some (12, x0))), some (.inl x1), some (.inl x2), some (.inl x3)], [.inl x1, .inl (S 832 x0 j1)], (S, d))) rfl ?_
    refine zwp_br rfl (fun hb => ?_) (fun hb => ?_)
    · show zwp 71 (54, [some (.inr (some (12, x0))), some (.inl x1), some (.inl x2), some (.inl x3)], [], (S, d)) Q
      replace h := h.2 (zne_t hb)
      exact h
    · show zwp 71 (44, [some (.inr (some (12, x0))), some (.inl x1), some (.inl x2), some (.inl x3)], [], (S, d)) Q
      replace h := h.1 (zne_f hb)
      refine zwp_blk 4 (c' := (50, [some (.inr (some (12, x0))), some (.inl x1), some (.inl x2), some (.inl x3)], [.inl x2, .inl x3, .inr (some (14, x0))], (S, d))) rfl ?_
      obtain ⟨j2, ej2, lj2, h⟩ := h
      refine zwp_stx (n := 4) (cd := 896) (i := x0) (v := x2) (pc' := 51) (ls := [some (.inr (some (12, x0))), some (.inl x1), some (.inl x2), some (.inl x3)]) (r := []) (t := (S, d)) rfl ej2 lj2 (by decide) ?_
      refine zwp_blk 1 (c' := (102, [some (.inr (some (12, x0))), some (.inl x1), some (.inl x2), some (.inl x3)], [], (zu S 896 x0 j2 x2, d))) rfl ?_
      exact zwp_end rfl h
theorem w71_54 {S : zS} {d : Nat} {Q : zO → zT → Prop} {x0 : Nat} {x1 : Int32} {x2 : Int32} {x3 : Int32} (h : ((nI 4) ≤ (S 769 x0 0) → Q (.inl none) (S, d)) ∧ (¬ (nI 4) ≤ (S 769 x0 0) → zwp 74 (0, zent 74 [.inr (some (13, x0)), .inl x3], [], (S, d)) (zaf 71 70 [some (.inr (some (12, x0))), some (.inl x1), some (.inl x2), some (.inl x3)] [] Q))) : zwp 71 (54, [some (.inr (some (12, x0))), some (.inl x1), some (.inl x2), some (.inl x3)], [], (S, d)) Q := by
  refine zwp_blk 3 (c' := (59, [some (.inr (some (12, x0))), some (.inl x1), some (.inl x2), some (.inl x3)], [.inl (nI 4), .inl (S 769 x0 0)], (S, d))) rfl ?_
  refine zwp_br rfl (fun hb => ?_) (fun hb => ?_)
  · show zwp 71 (102, [some (.inr (some (12, x0))), some (.inl x1), some (.inl x2), some (.inl x3)], [], (S, d)) Q
    replace h := h.1 (of_decide_eq_true hb)
    exact zwp_end rfl h
  · show zwp 71 (62, [some (.inr (some (12, x0))), some (.inl x1), some (.inl x2), some (.inl x3)], [], (S, d)) Q
    replace h := h.2 (of_decide_eq_false hb)
    refine zwp_blk 3 (c' := (67, [some (.inr (some (12, x0))), some (.inl x1), some (.inl x2), some (.inl x3)], [.inl x3, .inr (some (13, x0))], (S, d))) rfl ?_
    exact zwp_call rfl h
theorem w71_70 {S : zS} {d : Nat} {Q : zO → zT → Prop} {x0 : Nat} {x1 : Int32} {x2 : Int32} {x3 : Int32} (h : zwp 74 (0, zent 74 [.inr (some (14, x0)), .inl x3], [], (S, d)) (zaf 71 78 [some (.inr (some (12, x0))), some (.inl x1), some (.inl x2), some (.inl x3)] [] Q)) : zwp 71 (70, [some (.inr (some (12, x0))), some (.inl x1), some (.inl x2), some (.inl x3)], [], (S, d)) Q := by
  refine zwp_blk 3 (c' := (75, [some (.inr (some (12, x0))), some (.inl x1), some (.inl x2), some (.inl x3)], [.inl x3, .inr (some (14, x0))], (S, d))) rfl ?_
  exact zwp_call rfl h
theorem w71_78 {S : zS} {d : Nat} {Q : zO → zT → Prop} {x0 : Nat} {x1 : Int32} {x2 : Int32} {x3 : Int32} (h : ∃ j1 : Nat, x3 = nI j1 ∧ j1 < 4 ∧ (∃ j2 : Nat, x3 = nI j2 ∧ j2 < 4 ∧ (Q (.inl none) (zu (zu (zu S 832 x0 j1 x1) 896 x0 j2 x2) 769 x0 0 ((S 769 x0 0) + (nI 1)), d)))) : zwp 71 (78, [some (.inr (some (12, x0))), some (.inl x1), some (.inl x2), some (.inl x3)], [], (S, d)) Q := by
  refine zwp_blk 4 (c' := (84, [some (.inr (some (12, x0))), some (.inl x1), some (.inl x2), some (.inl x3)], [.inl x1, .inl x3, .inr (some (13, x0))], (S, d))) rfl ?_
  obtain ⟨j1, ej1, lj1, h⟩ := h
  refine zwp_stx (n := 4) (cd := 832) (i := x0) (v := x1) (pc' := 85) (ls := [some (.inr (some (12, x0))), some (.inl x1), some (.inl x2), some (.inl x3)]) (r := []) (t := (S, d)) rfl ej1 lj1 (by decide) ?_
  refine zwp_blk 4 (c' := (91, [some (.inr (some (12, x0))), some (.inl x1), some (.inl x2), some (.inl x3)], [.inl x2, .inl x3, .inr (some (14, x0))], (zu S 832 x0 j1 x1, d))) rfl ?_
  obtain ⟨j2, ej2, lj2, h⟩ := h
  refine zwp_stx (n := 4) (cd := 896) (i := x0) (v := x2) (pc' := 92) (ls := [some (.inr (some (12, x0))), some (.inl x1), some (.inl x2), some (.inl x3)]) (r := []) (t := (zu S 832 x0 j1 x1, d)) rfl ej2 lj2 (by decide) ?_
  refine zwp_blk 6 (c' := (102, [some (.inr (some (12, x0))), some (.inl x1), some (.inl x2), some (.inl x3)], [], (zu (zu (zu S 832 x0 j1 x1) 896 x0 j2 x2) 769 x0 0 ((S 769 x0 0) + (nI 1)), d))) rfl ?_
  exact zwp_end rfl h
-- 72 PageKeeper$Contents.drop
theorem w72_0 {S : zS} {d : Nat} {Q : zO → zT → Prop} {x0 : Nat} {x1 : Int32} (h : zwp 68 (0, zent 68 [.inr (some (12, x0)), .inl x1], [], (S, d)) (zaf 72 5 [some (.inr (some (12, x0))), some (.inl x1), none, none] [] Q)) : zwp 72 (0, [some (.inr (some (12, x0))), some (.inl x1), none, none], [], (S, d)) Q := by
  refine zwp_blk 2 (c' := (2, [some (.inr (some (12, x0))), some (.inl x1), none, none], [.inl x1, .inr (some (12, x0))], (S, d))) rfl ?_
  exact zwp_call rfl h
theorem w72_5 {S : zS} {d : Nat} {Q : zO → zT → Prop} {x0 : Nat} {x1 : Int32} {y0 : Int32} (h : (y0 = (zint (-1)) → Q (.inl none) (S, d)) ∧ (¬ y0 = (zint (-1)) → zwp 72 (24, [some (.inr (some (12, x0))), some (.inl x1), some (.inl y0), some (.inl y0)], [], (zu S 769 x0 0 ((S 769 x0 0) - (nI 1)), d)) Q)) : zwp 72 (5, [some (.inr (some (12, x0))), some (.inl x1), none, none], [.inl y0], (S, d)) Q := by
  refine zwp_blk 3 (c' := (8, [some (.inr (some (12, x0))), some (.inl x1), some (.inl y0), none], [.inl (zint (-1)), .inl y0], (S, d))) rfl ?_
  refine zwp_br rfl (fun hb => ?_) (fun hb => ?_)
  · show zwp 72 (12, [some (.inr (some (12, x0))), some (.inl x1), some (.inl y0), none], [], (S, d)) Q
    replace h := h.2 (zne_t hb)
    refine zwp_blk 8 (c' := (24, [some (.inr (some (12, x0))), some (.inl x1), some (.inl y0), some (.inl y0)], [], (zu S 769 x0 0 ((S 769 x0 0) - (nI 1)), d))) rfl ?_
    exact h
  · show zwp 72 (11, [some (.inr (some (12, x0))), some (.inl x1), some (.inl y0), none], [], (S, d)) Q
    replace h := h.1 (zne_f hb)
    exact zwp_end rfl h
theorem w72_24 {S : zS} {d : Nat} {Q : zO → zT → Prop} {x0 : Nat} {x1 : Int32} {x2 : Int32} {x3 : Int32} (h : ((S 769 x0 0) ≤ x3 → Q (.inl none) (S, d)) ∧ (¬ (S 769 x0 0) ≤ x3 → ∃ j1 : Nat, x3 + (nI 1) = nI j1 ∧ j1 < 4 ∧ (∃ j2 : Nat, x3 = nI j2 ∧ j2 < 4 ∧ (∃ j3 : Nat, x3 + (nI 1) = nI j3 ∧ j3 < 4 ∧ (∃ j4 : Nat, x3 = nI j4 ∧ j4 < 4 ∧ (zwp 72 (24, [some (.inr (some (12, x0))), some (.inl x1), some (.inl x2), some (.inl (x3 + nI 1))], [], (zu (zu S 832 x0 j2 ((S 832 x0 j1))) 896 x0 j4 ((S 896 x0 j3)), d)) Q)))))) : zwp 72 (24, [some (.inr (some (12, x0))), some (.inl x1), some (.inl x2), some (.inl x3)], [], (S, d)) Q := by
  refine zwp_blk 3 (c' := (29, [some (.inr (some (12, x0))), some (.inl x1), some (.inl x2), some (.inl x3)], [.inl (S 769 x0 0), .inl x3], (S, d))) rfl ?_
  refine zwp_br rfl (fun hb => ?_) (fun hb => ?_)
  · show zwp 72 (66, [some (.inr (some (12, x0))), some (.inl x1), some (.inl x2), some (.inl x3)], [], (S, d)) Q
    replace h := h.1 (of_decide_eq_true hb)
    exact zwp_end rfl h
  · show zwp 72 (32, [some (.inr (some (12, x0))), some (.inl x1), some (.inl x2), some (.inl x3)], [], (S, d)) Q
    replace h := h.2 (of_decide_eq_false hb)
    refine zwp_blk 8 (c' := (44, [some (.inr (some (12, x0))), some (.inl x1), some (.inl x2), some (.inl x3)], [.inl (x3 + (nI 1)), .inr (some (13, x0)), .inl x3, .inr (some (13, x0))], (S, d))) rfl ?_
    obtain ⟨j1, ej1, lj1, h⟩ := h
    refine zwp_ldx (n := 4) (cd := 832) (i := x0) (pc' := 45) (ls := [some (.inr (some (12, x0))), some (.inl x1), some (.inl x2), some (.inl x3)]) (r := [.inl x3, .inr (some (13, x0))]) (t := (S, d)) rfl ej1 lj1 (by decide) ?_
    obtain ⟨j2, ej2, lj2, h⟩ := h
    refine zwp_stx (n := 4) (cd := 832) (i := x0) (v := (S 832 x0 j1)) (pc' := 46) (ls := [some (.inr (some (12, x0))), some (.inl x1), some (.inl x2), some (.inl x3)]) (r := []) (t := (S, d)) rfl ej2 lj2 (by decide) ?_
    refine zwp_blk 8 (c' := (58, [some (.inr (some (12, x0))), some (.inl x1), some (.inl x2), some (.inl x3)], [.inl (x3 + (nI 1)), .inr (some (14, x0)), .inl x3, .inr (some (14, x0))], (zu S 832 x0 j2 ((S 832 x0 j1)), d))) rfl ?_
    obtain ⟨j3, ej3, lj3, h⟩ := h
    refine zwp_ldx (n := 4) (cd := 896) (i := x0) (pc' := 59) (ls := [some (.inr (some (12, x0))), some (.inl x1), some (.inl x2), some (.inl x3)]) (r := [.inl x3, .inr (some (14, x0))]) (t := (zu S 832 x0 j2 ((S 832 x0 j1)), d)) rfl ej3 lj3 (by decide) ?_
    obtain ⟨j4, ej4, lj4, h⟩ := h
    refine zwp_stx (n := 4) (cd := 896) (i := x0) (v := (S 896 x0 j3)) (pc' := 60) (ls := [some (.inr (some (12, x0))), some (.inl x1), some (.inl x2), some (.inl x3)]) (r := []) (t := (zu S 832 x0 j2 ((S 832 x0 j1)), d)) rfl ej4 lj4 (by decide) ?_
    refine zwp_blk 2 (c' := (24, [some (.inr (some (12, x0))), some (.inl x1), some (.inl x2), some (.inl (x3 + nI 1))], [], (zu (zu S 832 x0 j2 ((S 832 x0 j1))) 896 x0 j4 ((S 896 x0 j3)), d))) rfl ?_
    exact h
-- 73 PageKeeper$Contents.link
theorem w73_0 {S : zS} {d : Nat} {Q : zO → zT → Prop} {x0 : Nat} {x1 : Int32} {x2 : Int32} {x3 : Int32} (h : zwp 68 (0, zent 68 [.inr (some (12, x0)), .inl x3], [], (S, d)) (zaf 73 5 [some (.inr (some (12, x0))), some (.inl x1), some (.inl x2), some (.inl x3), none] [] Q)) : zwp 73 (0, [some (.inr (some (12, x0))), some (.inl x1), some (.inl x2), some (.inl x3), none], [], (S, d)) Q := by
  refine zwp_blk 2 (c' := (2, [some (.inr (some (12, x0))), some (.inl x1), some (.inl x2), some (.inl x3), none], [.inl x3, .inr (some (12, x0))], (S, d))) rfl ?_
  exact zwp_call rfl h
theorem w73_5 {S : zS} {d : Nat} {Q : zO → zT → Prop} {x0 : Nat} {x1 : Int32} {x2 : Int32} {x3 : Int32} {y0 : Int32} (h : (y0 = (zint (-1)) → Q (.inl none) (S, d)) ∧ (¬ y0 = (zint (-1)) → ((S 769 x0 0) = (nI 4) → Q (.inl none) (S, d)) ∧ (¬ (S 769 x0 0) = (nI 4) → zwp 74 (0, zent 74 [.inr (some (13, x0)), .inl (y0 + (nI 1))], [], (S, d)) (zaf 73 33 [some (.inr (some (12, x0))), some (.inl x1), some (.inl x2), some (.inl x3), some (.inl y0)] [] Q)))) : zwp 73 (5, [some (.inr (some (12, x0))), some (.inl x1), some (.inl x2), some (.inl x3), none], [.inl y0], (S, d)) Q := by
  refine zwp_blk 3 (c' := (10, [some (.inr (some (12, x0))), some (.inl x1), some (.inl x2), some (.inl x3), some (.inl y0)], [.inl (zint (-1)), .inl y0], (S, d))) rfl ?_
  refine zwp_br rfl (fun hb => ?_) (fun hb => ?_)
  · show zwp 73 (21, [some (.inr (some (12, x0))), some (.inl x1), some (.inl x2), some (.inl x3), some (.inl y0)], [], (S, d)) Q
    replace h := h.1 (of_decide_eq_true hb)
    exact zwp_end rfl h
  · show zwp 73 (13, [some (.inr (some (12, x0))), some (.inl x1), some (.inl x2), some (.inl x3), some (.inl y0)], [], (S, d)) Q
    replace h := h.2 (of_decide_eq_false hb)
    refine zwp_blk 3 (c' := (18, [some (.inr (some (12, x0))), some (.inl x1), some (.inl x2), some (.inl x3), some (.inl y0)], [.inl (nI 4), .inl (S 769 x0 0)], (S, d))) rfl ?_
    refine zwp_br rfl (fun hb => ?_) (fun hb => ?_)
    · show zwp 73 (22, [some (.inr (some (12, x0))), some (.inl x1), some (.inl x2), some (.inl x3), some (.inl y0)], [], (S, d)) Q
      replace h := h.2 (zne_t hb)
      refine zwp_blk 5 (c' := (30, [some (.inr (some (12, x0))), some (.inl x1), some (.inl x2), some (.inl x3), some (.inl y0)], [.inl (y0 + (nI 1)), .inr (some (13, x0))], (S, d))) rfl ?_
      exact zwp_call rfl h
    · show zwp 73 (21, [some (.inr (some (12, x0))), some (.inl x1), some (.inl x2), some (.inl x3), some (.inl y0)], [], (S, d)) Q
      replace h := h.1 (zne_f hb)
      exact zwp_end rfl h
theorem w73_33 {S : zS} {d : Nat} {Q : zO → zT → Prop} {x0 : Nat} {x1 : Int32} {x2 : Int32} {x3 : Int32} {x4 : Int32} (h : zwp 74 (0, zent 74 [.inr (some (14, x0)), .inl x4], [], (S, d)) (zaf 73 42 [some (.inr (some (12, x0))), some (.inl x1), some (.inl x2), some (.inl x3), some (.inl x4)] [] Q)) : zwp 73 (33, [some (.inr (some (12, x0))), some (.inl x1), some (.inl x2), some (.inl x3), some (.inl x4)], [], (S, d)) Q := by
  refine zwp_blk 3 (c' := (39, [some (.inr (some (12, x0))), some (.inl x1), some (.inl x2), some (.inl x3), some (.inl x4)], [.inl x4, .inr (some (14, x0))], (S, d))) rfl ?_
  exact zwp_call rfl h
theorem w73_42 {S : zS} {d : Nat} {Q : zO → zT → Prop} {x0 : Nat} {x1 : Int32} {x2 : Int32} {x3 : Int32} {x4 : Int32} (h : ∃ j1 : Nat, x4 + (nI 1) = nI j1 ∧ j1 < 4 ∧ (∃ j2 : Nat, x4 = nI j2 ∧ j2 < 4 ∧ (Q (.inl none) (zu (zu (zu S 832 x0 j1 x2) 896 x0 j2 x1) 769 x0 0 ((S 769 x0 0) + (nI 1)), d)))) : zwp 73 (42, [some (.inr (some (12, x0))), some (.inl x1), some (.inl x2), some (.inl x3), some (.inl x4)], [], (S, d)) Q := by
  refine zwp_blk 6 (c' := (51, [some (.inr (some (12, x0))), some (.inl x1), some (.inl x2), some (.inl x3), some (.inl x4)], [.inl x2, .inl (x4 + (nI 1)), .inr (some (13, x0))], (S, d))) rfl ?_
  obtain ⟨j1, ej1, lj1, h⟩ := h
  refine zwp_stx (n := 4) (cd := 832) (i := x0) (v := x2) (pc' := 52) (ls := [some (.inr (some (12, x0))), some (.inl x1), some (.inl x2), some (.inl x3), some (.inl x4)]) (r := []) (t := (S, d)) rfl ej1 lj1 (by decide) ?_
  refine zwp_blk 4 (c' := (59, [some (.inr (some (12, x0))), some (.inl x1), some (.inl x2), some (.inl x3), some (.inl x4)], [.inl x1, .inl x4, .inr (some (14, x0))], (zu S 832 x0 j1 x2, d))) rfl ?_
  obtain ⟨j2, ej2, lj2, h⟩ := h
  refine zwp_stx (n := 4) (cd := 896) (i := x0) (v := x1) (pc' := 60) (ls := [some (.inr (some (12, x0))), some (.inl x1), some (.inl x2), some (.inl x3), some (.inl x4)]) (r := []) (t := (zu S 832 x0 j1 x2, d)) rfl ej2 lj2 (by decide) ?_
  refine zwp_blk 6 (c' := (70, [some (.inr (some (12, x0))), some (.inl x1), some (.inl x2), some (.inl x3), some (.inl x4)], [], (zu (zu (zu S 832 x0 j1 x2) 896 x0 j2 x1) 769 x0 0 ((S 769 x0 0) + (nI 1)), d))) rfl ?_
  exact zwp_end rfl h
-- 74 PageKeeper$Contents.shiftUp
theorem w74h_0 {S : zS} {d : Nat} {Q : zO → zT → Prop} {x0 : Nat} {x1 : Int32} (h : zwp 74 (2, [some (.inr (some (13, x0))), some (.inl x1), some (.inl (nI 3))], [], (S, d)) Q) : zwp 74 (0, [some (.inr (some (13, x0))), some (.inl x1), none], [], (S, d)) Q := by
  refine zwp_blk 2 (c' := (2, [some (.inr (some (13, x0))), some (.inl x1), some (.inl (nI 3))], [], (S, d))) rfl ?_
  exact h
theorem w74h_2 {S : zS} {d : Nat} {Q : zO → zT → Prop} {x0 : Nat} {x1 : Int32} {x2 : Int32} (h : (x2 ≤ x1 → Q (.inl none) (S, d)) ∧ (¬ x2 ≤ x1 → ∃ j1 : Nat, x2 - (nI 1) = nI j1 ∧ j1 < 4 ∧ (∃ j2 : Nat, x2 = nI j2 ∧ j2 < 4 ∧ (zwp 74 (2, [some (.inr (some (13, x0))), some (.inl x1), some (.inl (x2 + zint (-1)))], [], (zu S 832 x0 j2 ((S 832 x0 j1)), d)) Q)))) : zwp 74 (2, [some (.inr (some (13, x0))), some (.inl x1), some (.inl x2)], [], (S, d)) Q := by
  refine zwp_blk 2 (c' := (4, [some (.inr (some (13, x0))), some (.inl x1), some (.inl x2)], [.inl x1, .inl x2], (S, d))) rfl ?_
  refine zwp_br rfl (fun hb => ?_) (fun hb => ?_)
  · show zwp 74 (21, [some (.inr (some (13, x0))), some (.inl x1), some (.inl x2)], [], (S, d)) Q
    replace h := h.1 (of_decide_eq_true hb)
    exact zwp_end rfl h
  · show zwp 74 (7, [some (.inr (some (13, x0))), some (.inl x1), some (.inl x2)], [], (S, d)) Q
    replace h := h.2 (of_decide_eq_false hb)
    refine zwp_blk 6 (c' := (13, [some (.inr (some (13, x0))), some (.inl x1), some (.inl x2)], [.inl (x2 - (nI 1)), .inr (some (13, x0)), .inl x2, .inr (some (13, x0))], (S, d))) rfl ?_
    obtain ⟨j1, ej1, lj1, h⟩ := h
    refine zwp_ldx (n := 4) (cd := 832) (i := x0) (pc' := 14) (ls := [some (.inr (some (13, x0))), some (.inl x1), some (.inl x2)]) (r := [.inl x2, .inr (some (13, x0))]) (t := (S, d)) rfl ej1 lj1 (by decide) ?_
    obtain ⟨j2, ej2, lj2, h⟩ := h
    refine zwp_stx (n := 4) (cd := 832) (i := x0) (v := (S 832 x0 j1)) (pc' := 15) (ls := [some (.inr (some (13, x0))), some (.inl x1), some (.inl x2)]) (r := []) (t := (S, d)) rfl ej2 lj2 (by decide) ?_
    refine zwp_blk 2 (c' := (2, [some (.inr (some (13, x0))), some (.inl x1), some (.inl (x2 + zint (-1)))], [], (zu S 832 x0 j2 ((S 832 x0 j1)), d))) rfl ?_
    exact h
-- 74 PageKeeper$Contents.shiftUp
theorem w74t_0 {S : zS} {d : Nat} {Q : zO → zT → Prop} {x0 : Nat} {x1 : Int32} (h : zwp 74 (2, [some (.inr (some (14, x0))), some (.inl x1), some (.inl (nI 3))], [], (S, d)) Q) : zwp 74 (0, [some (.inr (some (14, x0))), some (.inl x1), none], [], (S, d)) Q := by
  refine zwp_blk 2 (c' := (2, [some (.inr (some (14, x0))), some (.inl x1), some (.inl (nI 3))], [], (S, d))) rfl ?_
  exact h
theorem w74t_2 {S : zS} {d : Nat} {Q : zO → zT → Prop} {x0 : Nat} {x1 : Int32} {x2 : Int32} (h : (x2 ≤ x1 → Q (.inl none) (S, d)) ∧ (¬ x2 ≤ x1 → ∃ j1 : Nat, x2 - (nI 1) = nI j1 ∧ j1 < 4 ∧ (∃ j2 : Nat, x2 = nI j2 ∧ j2 < 4 ∧ (zwp 74 (2, [some (.inr (some (14, x0))), some (.inl x1), some (.inl (x2 + zint (-1)))], [], (zu S 896 x0 j2 ((S 896 x0 j1)), d)) Q)))) : zwp 74 (2, [some (.inr (some (14, x0))), some (.inl x1), some (.inl x2)], [], (S, d)) Q := by
  refine zwp_blk 2 (c' := (4, [some (.inr (some (14, x0))), some (.inl x1), some (.inl x2)], [.inl x1, .inl x2], (S, d))) rfl ?_
  refine zwp_br rfl (fun hb => ?_) (fun hb => ?_)
  · show zwp 74 (21, [some (.inr (some (14, x0))), some (.inl x1), some (.inl x2)], [], (S, d)) Q
    replace h := h.1 (of_decide_eq_true hb)
    exact zwp_end rfl h
  · show zwp 74 (7, [some (.inr (some (14, x0))), some (.inl x1), some (.inl x2)], [], (S, d)) Q
    replace h := h.2 (of_decide_eq_false hb)
    refine zwp_blk 6 (c' := (13, [some (.inr (some (14, x0))), some (.inl x1), some (.inl x2)], [.inl (x2 - (nI 1)), .inr (some (14, x0)), .inl x2, .inr (some (14, x0))], (S, d))) rfl ?_
    obtain ⟨j1, ej1, lj1, h⟩ := h
    refine zwp_ldx (n := 4) (cd := 896) (i := x0) (pc' := 14) (ls := [some (.inr (some (14, x0))), some (.inl x1), some (.inl x2)]) (r := [.inl x2, .inr (some (14, x0))]) (t := (S, d)) rfl ej1 lj1 (by decide) ?_
    obtain ⟨j2, ej2, lj2, h⟩ := h
    refine zwp_stx (n := 4) (cd := 896) (i := x0) (v := (S 896 x0 j1)) (pc' := 15) (ls := [some (.inr (some (14, x0))), some (.inl x1), some (.inl x2)]) (r := []) (t := (S, d)) rfl ej2 lj2 (by decide) ?_
    refine zwp_blk 2 (c' := (2, [some (.inr (some (14, x0))), some (.inl x1), some (.inl (x2 + zint (-1)))], [], (zu S 896 x0 j2 ((S 896 x0 j1)), d))) rfl ?_
    exact h
