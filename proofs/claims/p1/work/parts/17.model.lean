-- 75 PageKeeperModel.thrown
theorem w75_0 {S : zS} {d : Nat} {Q : zO → zT → Prop}  (h : Q (.inl (some (.inl (S 1024 0 0)))) (S, d)) : zwp 75 (0, [some (.inr (some (16, 0)))], [], (S, d)) Q := by
  refine zwp_blk 2 (c' := (4, [some (.inr (some (16, 0)))], [.inl (S 1024 0 0)], (S, d))) rfl ?_
  exact zwp_end rfl h
-- 76 PageKeeperModel.fails
theorem w76_0 {S : zS} {d : Nat} {Q : zO → zT → Prop} {x1 : Int32} (h : Q (.inl (some (.inl (nI 0)))) (zu S 1024 0 0 x1, d)) : zwp 76 (0, [some (.inr (some (16, 0))), some (.inl x1)], [], (S, d)) Q := by
  refine zwp_blk 4 (c' := (6, [some (.inr (some (16, 0))), some (.inl x1)], [.inl (nI 0)], (zu S 1024 0 0 x1, d))) rfl ?_
  exact zwp_end rfl h
-- 77 PageKeeperModel.in
theorem w77_0 {S : zS} {d : Nat} {Q : zO → zT → Prop} {x0 : Int32} {x1 : Int32} {x2 : Int32} (h : (x0 < x1 → Q (.inl (some (.inl (nI 0)))) (S, d)) ∧ (¬ x0 < x1 → (x2 < x0 → Q (.inl (some (.inl (nI 0)))) (S, d)) ∧ (¬ x2 < x0 → Q (.inl (some (.inl (nI 1)))) (S, d)))) : zwp 77 (0, [some (.inl x0), some (.inl x1), some (.inl x2)], [], (S, d)) Q := by
  refine zwp_blk 2 (c' := (2, [some (.inl x0), some (.inl x1), some (.inl x2)], [.inl x1, .inl x0], (S, d))) rfl ?_
  refine zwp_br rfl (fun hb => ?_) (fun hb => ?_)
  · show zwp 77 (14, [some (.inl x0), some (.inl x1), some (.inl x2)], [], (S, d)) Q
    replace h := h.1 (of_decide_eq_true hb)
    refine zwp_blk 1 (c' := (15, [some (.inl x0), some (.inl x1), some (.inl x2)], [.inl (nI 0)], (S, d))) rfl ?_
    exact zwp_ret01 (x := nI 0) rfl (by decide) h
  · show zwp 77 (5, [some (.inl x0), some (.inl x1), some (.inl x2)], [], (S, d)) Q
    replace h := h.2 (of_decide_eq_false hb)
    refine zwp_blk 2 (c' := (7, [some (.inl x0), some (.inl x1), some (.inl x2)], [.inl x2, .inl x0], (S, d))) rfl ?_
    refine zwp_br rfl (fun hb => ?_) (fun hb => ?_)
    · show zwp 77 (14, [some (.inl x0), some (.inl x1), some (.inl x2)], [], (S, d)) Q
      replace h := h.1 (of_decide_eq_true hb)
      refine zwp_blk 1 (c' := (15, [some (.inl x0), some (.inl x1), some (.inl x2)], [.inl (nI 0)], (S, d))) rfl ?_
      exact zwp_ret01 (x := nI 0) rfl (by decide) h
    · show zwp 77 (10, [some (.inl x0), some (.inl x1), some (.inl x2)], [], (S, d)) Q
      replace h := h.2 (of_decide_eq_false hb)
      refine zwp_blk 2 (c' := (15, [some (.inl x0), some (.inl x1), some (.inl x2)], [.inl (nI 1)], (S, d))) rfl ?_
      exact zwp_ret01 (x := nI 1) rfl (by decide) h
-- 78 PageKeeperModel.latest
theorem w78_0 {S : zS} {d : Nat} {Q : zO → zT → Prop} {x1 : Int32} (h : zwp 78 (5, [some (.inr (some (16, 0))), some (.inl x1), some (.inl (S 1025 0 0))], [], (S, d)) Q) : zwp 78 (0, [some (.inr (some (16, 0))), some (.inl x1), none], [], (S, d)) Q := by
  refine zwp_blk 3 (c' := (5, [some (.inr (some (16, 0))), some (.inl x1), some (.inl (S 1025 0 0))], [], (S, d))) rfl ?_
  exact h
theorem w78_5 {S : zS} {d : Nat} {Q : zO → zT → Prop} {x1 : Int32} {x2 : Int32} (h : (x2 ≤ 0 → Q (.inl (some (.inl (nI 0)))) (S, d)) ∧ (¬ x2 ≤ 0 → ∃ j1 : Nat, x2 = nI j1 ∧ j1 < 1300 ∧ (((nI 6) ≤ (S 1088 0 j1) → zwp 78 (5, [some (.inr (some (16, 0))), some (.inl x1), some (.inl (x2 + zint (-1)))], [], (S, d)) Q) ∧ (¬ (nI 6) ≤ (S 1088 0 j1) → ∃ j2 : Nat, x2 = nI j2 ∧ j2 < 1300 ∧ (((S 1152 0 j2) = x1 → Q (.inl (some (.inl x2))) (S, d)) ∧ (¬ (S 1152 0 j2) = x1 → zwp 78 (5, [some (.inr (some (16, 0))), some (.inl x1), some (.inl (x2 + zint (-1)))], [], (S, d)) Q)))))) : zwp 78 (5, [some (.inr (some (16, 0))), some (.inl x1), some (.inl x2)], [], (S, d)) Q := by
  refine zwp_blk 1 (c' := (6, [some (.inr (some (16, 0))), some (.inl x1), some (.inl x2)], [.inl x2], (S, d))) rfl ?_
  refine zwp_br rfl (fun hb => ?_) (fun hb => ?_)
  · show zwp 78 (38, [some (.inr (some (16, 0))), some (.inl x1), some (.inl x2)], [], (S, d)) Q
    replace h := h.1 (of_decide_eq_true hb)
    refine zwp_blk 1 (c' := (39, [some (.inr (some (16, 0))), some (.inl x1), some (.inl x2)], [.inl (nI 0)], (S, d))) rfl ?_
    exact zwp_end rfl h
  · show zwp 78 (9, [some (.inr (some (16, 0))), some (.inl x1), some (.inl x2)], [], (S, d)) Q
    replace h := h.2 (of_decide_eq_false hb)
    refine zwp_blk 3 (c' := (14, [some (.inr (some (16, 0))), some (.inl x1), some (.inl x2)], [.inl x2, .inr (some (17, 0))], (S, d))) rfl ?_
    obtain ⟨j1, ej1, lj1, h⟩ := h
    refine zwp_ldx (n := 1300) (cd := 1088) (i := 0) (pc' := 15) (ls := [some (.inr (some (16, 0))), some (.inl x1), some (.inl x2)]) (r := []) (t := (S, d)) rfl ej1 lj1 (by decide) ?_
    refine zwp_blk 1 (c' := (17, [some (.inr (some (16, 0))), some (.inl x1), some (.inl x2)], [.inl (nI 6), .inl (S 1088 0 j1)], (S, d))) rfl ?_
    refine zwp_br rfl (fun hb => ?_) (fun hb => ?_)
    · show zwp 78 (32, [some (.inr (some (16, 0))), some (.inl x1), some (.inl x2)], [], (S, d)) Q
      replace h := h.1 (of_decide_eq_true hb)
      refine zwp_blk 2 (c' := (5, [some (.inr (some (16, 0))), some (.inl x1), some (.inl (x2 + zint (-1)))], [], (S, d))) rfl ?_
      exact h
    · show zwp 78 (20, [some (.inr (some (16, 0))), some (.inl x1), some (.inl x2)], [], (S, d)) Q
      replace h := h.2 (of_decide_eq_false hb)
      refine zwp_blk 3 (c' := (25, [some (.inr (some (16, 0))), some (.inl x1), some (.inl x2)], [.inl x2, .inr (some (18, 0))], (S, d))) rfl ?_
      obtain ⟨j2, ej2, lj2, h⟩ := h
      refine zwp_ldx (n := 1300) (cd := 1152) (i := 0) (pc' := 26) (ls := [some (.inr (some (16, 0))), some (.inl x1), some (.inl x2)]) (r := []) (t := (S, d)) rfl ej2 lj2 (by decide) ?_
      refine zwp_blk 1 (c' := (27, [some (.inr (some (16, 0))), some (.inl x1), some (.inl x2)], [.inl x1, .inl (S 1152 0 j2)], (S, d))) rfl ?_
      refine zwp_br rfl (fun hb => ?_) (fun hb => ?_)
      · show zwp 78 (32, [some (.inr (some (16, 0))), some (.inl x1), some (.inl x2)], [], (S, d)) Q
        replace h := h.2 (zne_t hb)
        refine zwp_blk 2 (c' := (5, [some (.inr (some (16, 0))), some (.inl x1), some (.inl (x2 + zint (-1)))], [], (S, d))) rfl ?_
        exact h
      · show zwp 78 (30, [some (.inr (some (16, 0))), some (.inl x1), some (.inl x2)], [], (S, d)) Q
        replace h := h.1 (zne_f hb)
        refine zwp_blk 1 (c' := (31, [some (.inr (some (16, 0))), some (.inl x1), some (.inl x2)], [.inl x2], (S, d))) rfl ?_
        exact zwp_end rfl h
-- 79 PageKeeperModel.look
theorem w79_0 {S : zS} {d : Nat} {Q : zO → zT → Prop} {x1 : Int32} (h : zwp 79 (12, [some (.inr (some (16, 0))), some (.inl x1), some (.inl (nI 1))], [], (zu (zu S 1048 0 0 (nI 0)) 1049 0 0 (nI 0), d)) Q) : zwp 79 (0, [some (.inr (some (16, 0))), some (.inl x1), none], [], (S, d)) Q := by
  refine zwp_blk 2 (c' := (2, [some (.inr (some (16, 0))), some (.inl x1), none], [.inl (nI 0), .inr (some (16, 0))], (S, d))) rfl ?_
  refine zwp_grd (c' := (5, [some (.inr (some (16, 0))), some (.inl x1), none], [], (zu S 1048 0 0 (nI 0), d))) rfl (by decide) ?_
  refine zwp_blk 5 (c' := (12, [some (.inr (some (16, 0))), some (.inl x1), some (.inl (nI 1))], [], (zu (zu S 1048 0 0 (nI 0)) 1049 0 0 (nI 0), d))) rfl ?_
  exact h
theorem w79_12 {S : zS} {d : Nat} {Q : zO → zT → Prop} {x1 : Int32} {x2 : Int32} (h : ((S 1025 0 0) < x2 → Q (.inl none) (S, d)) ∧ (¬ (S 1025 0 0) < x2 → ∃ j1 : Nat, x2 = nI j1 ∧ j1 < 1300 ∧ (((nI 6) ≤ (S 1088 0 j1) → zwp 79 (46, [some (.inr (some (16, 0))), some (.inl x1), some (.inl x2)], [], (S, d)) Q) ∧ (¬ (nI 6) ≤ (S 1088 0 j1) → ∃ j2 : Nat, x2 = nI j2 ∧ j2 < 1300 ∧ (((S 1152 0 j2) = x1 → zwp 80 (0, zent 80 [.inr (some (16, 0)), .inl x2], [], (S, d)) (zaf 79 46 [some (.inr (some (16, 0))), some (.inl x1), some (.inl x2)] [] Q)) ∧ (¬ (S 1152 0 j2) = x1 → zwp 79 (46, [some (.inr (some (16, 0))), some (.inl x1), some (.inl x2)], [], (S, d)) Q)))))) : zwp 79 (12, [some (.inr (some (16, 0))), some (.inl x1), some (.inl x2)], [], (S, d)) Q := by
  refine zwp_blk 3 (c' := (17, [some (.inr (some (16, 0))), some (.inl x1), some (.inl x2)], [.inl (S 1025 0 0), .inl x2], (S, d))) rfl ?_
  refine zwp_br rfl (fun hb => ?_) (fun hb => ?_)
  · show zwp 79 (52, [some (.inr (some (16, 0))), some (.inl x1), some (.inl x2)], [], (S, d)) Q
    replace h := h.1 (of_decide_eq_true hb)
    exact zwp_end rfl h
  · show zwp 79 (20, [some (.inr (some (16, 0))), some (.inl x1), some (.inl x2)], [], (S, d)) Q
    replace h := h.2 (of_decide_eq_false hb)
    refine zwp_blk 3 (c' := (25, [some (.inr (some (16, 0))), some (.inl x1), some (.inl x2)], [.inl x2, .inr (some (17, 0))], (S, d))) rfl ?_
    obtain ⟨j1, ej1, lj1, h⟩ := h
    refine zwp_ldx (n := 1300) (cd := 1088) (i := 0) (pc' := 26) (ls := [some (.inr (some (16, 0))), some (.inl x1), some (.inl x2)]) (r := []) (t := (S, d)) rfl ej1 lj1 (by decide) ?_
    refine zwp_blk 1 (c' := (28, [some (.inr (some (16, 0))), some (.inl x1), some (.inl x2)], [.inl (nI 6), .inl (S 1088 0 j1)], (S, d))) rfl ?_
    refine zwp_br rfl (fun hb => ?_) (fun hb => ?_)
    · show zwp 79 (46, [some (.inr (some (16, 0))), some (.inl x1), some (.inl x2)], [], (S, d)) Q
      replace h := h.1 (of_decide_eq_true hb)
      exact h
    · show zwp 79 (31, [some (.inr (some (16, 0))), some (.inl x1), some (.inl x2)], [], (S, d)) Q
      replace h := h.2 (of_decide_eq_false hb)
      refine zwp_blk 3 (c' := (36, [some (.inr (some (16, 0))), some (.inl x1), some (.inl x2)], [.inl x2, .inr (some (18, 0))], (S, d))) rfl ?_
      obtain ⟨j2, ej2, lj2, h⟩ := h
      refine zwp_ldx (n := 1300) (cd := 1152) (i := 0) (pc' := 37) (ls := [some (.inr (some (16, 0))), some (.inl x1), some (.inl x2)]) (r := []) (t := (S, d)) rfl ej2 lj2 (by decide) ?_
      refine zwp_blk 1 (c' := (38, [some (.inr (some (16, 0))), some (.inl x1), some (.inl x2)], [.inl x1, .inl (S 1152 0 j2)], (S, d))) rfl ?_
      refine zwp_br rfl (fun hb => ?_) (fun hb => ?_)
      · show zwp 79 (46, [some (.inr (some (16, 0))), some (.inl x1), some (.inl x2)], [], (S, d)) Q
        replace h := h.2 (zne_t hb)
        exact h
      · show zwp 79 (41, [some (.inr (some (16, 0))), some (.inl x1), some (.inl x2)], [], (S, d)) Q
        replace h := h.1 (zne_f hb)
        refine zwp_blk 2 (c' := (43, [some (.inr (some (16, 0))), some (.inl x1), some (.inl x2)], [.inl x2, .inr (some (16, 0))], (S, d))) rfl ?_
        exact zwp_call rfl h
theorem w79_46 {S : zS} {d : Nat} {Q : zO → zT → Prop} {x1 : Int32} {x2 : Int32} (h : zwp 79 (12, [some (.inr (some (16, 0))), some (.inl x1), some (.inl (x2 + nI 1))], [], (S, d)) Q) : zwp 79 (46, [some (.inr (some (16, 0))), some (.inl x1), some (.inl x2)], [], (S, d)) Q := by
  refine zwp_blk 2 (c' := (12, [some (.inr (some (16, 0))), some (.inl x1), some (.inl (x2 + nI 1))], [], (S, d))) rfl ?_
  exact h
-- 80 PageKeeperModel.replay
theorem w80_0 {S : zS} {d : Nat} {Q : zO → zT → Prop} {x1 : Int32} (h : ∃ j1 : Nat, x1 = nI j1 ∧ j1 < 1300 ∧ (((S 1088 0 j1) = (nI 3) → ∃ j4 : Nat, x1 = nI j4 ∧ j4 < 1300 ∧ (∃ j5 : Nat, (nI 10) * (S 1344 0 j4) = nI j5 ∧ j5 < 1000 ∧ (((S 1664 0 j5) = (nI 1) → zwp 80 (36, [some (.inr (some (16, 0))), some (.inl x1), some (.inl ((nI 10) * (S 1344 0 j4))), none], [.inl (nI 1), .inr (some (16, 0))], (S, d)) Q) ∧ (¬ (S 1664 0 j5) = (nI 1) → zwp 80 (36, [some (.inr (some (16, 0))), some (.inl x1), some (.inl ((nI 10) * (S 1344 0 j4))), none], [.inl (nI 0), .inr (some (16, 0))], (S, d)) Q)))) ∧ (¬ (S 1088 0 j1) = (nI 3) → ∃ j2 : Nat, x1 = nI j2 ∧ j2 < 1300 ∧ (((S 1088 0 j2) = (nI 4) → zwp 80 (243, [some (.inr (some (16, 0))), some (.inl x1), none, none], [], (zu S 1049 0 0 (nI 2), d)) Q) ∧ (¬ (S 1088 0 j2) = (nI 4) → ∃ j3 : Nat, x1 = nI j3 ∧ j3 < 1300 ∧ (((S 1088 0 j3) = (nI 5) → zwp 80 (130, [some (.inr (some (16, 0))), some (.inl x1), some (.inl (nI 0)), none], [], (S, d)) Q) ∧ (¬ (S 1088 0 j3) = (nI 5) → zwp 81 (0, zent 81 [.inr (some (16, 0)), .inl x1], [], (S, d)) (zaf 80 243 [some (.inr (some (16, 0))), some (.inl x1), none, none] [] Q)))))))) : zwp 80 (0, [some (.inr (some (16, 0))), some (.inl x1), none, none], [], (S, d)) Q := by
  refine zwp_blk 3 (c' := (5, [some (.inr (some (16, 0))), some (.inl x1), none, none], [.inl x1, .inr (some (17, 0))], (S, d))) rfl ?_
  obtain ⟨j1, ej1, lj1, h⟩ := h
  refine zwp_ldx (n := 1300) (cd := 1088) (i := 0) (pc' := 6) (ls := [some (.inr (some (16, 0))), some (.inl x1), none, none]) (r := []) (t := (S, d)) rfl ej1 lj1 (by decide) ?_
  refine zwp_blk 1 (c' := (7, [some (.inr (some (16, 0))), some (.inl x1), none, none], [.inl (nI 3), .inl (S 1088 0 j1)], (S, d))) rfl ?_
  refine zwp_br rfl (fun hb => ?_) (fun hb => ?_)
  · show zwp 80 (100, [some (.inr (some (16, 0))), some (.inl x1), none, none], [], (S, d)) Q
    replace h := h.2 (zne_t hb)
    refine zwp_blk 3 (c' := (105, [some (.inr (some (16, 0))), some (.inl x1), none, none], [.inl x1, .inr (some (17, 0))], (S, d))) rfl ?_
    obtain ⟨j2, ej2, lj2, h⟩ := h
    refine zwp_ldx (n := 1300) (cd := 1088) (i := 0) (pc' := 106) (ls := [some (.inr (some (16, 0))), some (.inl x1), none, none]) (r := []) (t := (S, d)) rfl ej2 lj2 (by decide) ?_
    refine zwp_blk 1 (c' := (107, [some (.inr (some (16, 0))), some (.inl x1), none, none], [.inl (nI 4), .inl (S 1088 0 j2)], (S, d))) rfl ?_
    refine zwp_br rfl (fun hb => ?_) (fun hb => ?_)
    · show zwp 80 (118, [some (.inr (some (16, 0))), some (.inl x1), none, none], [], (S, d)) Q
      replace h := h.2 (zne_t hb)
      refine zwp_blk 3 (c' := (123, [some (.inr (some (16, 0))), some (.inl x1), none, none], [.inl x1, .inr (some (17, 0))], (S, d))) rfl ?_
      obtain ⟨j3, ej3, lj3, h⟩ := h
      refine zwp_ldx (n := 1300) (cd := 1088) (i := 0) (pc' := 124) (ls := [some (.inr (some (16, 0))), some (.inl x1), none, none]) (r := []) (t := (S, d)) rfl ej3 lj3 (by decide) ?_
      refine zwp_blk 1 (c' := (125, [some (.inr (some (16, 0))), some (.inl x1), none, none], [.inl (nI 5), .inl (S 1088 0 j3)], (S, d))) rfl ?_
      refine zwp_br rfl (fun hb => ?_) (fun hb => ?_)
      · show zwp 80 (238, [some (.inr (some (16, 0))), some (.inl x1), none, none], [], (S, d)) Q
        replace h := h.2 (zne_t hb)
        refine zwp_blk 2 (c' := (240, [some (.inr (some (16, 0))), some (.inl x1), none, none], [.inl x1, .inr (some (16, 0))], (S, d))) rfl ?_
        exact zwp_call rfl h
      · show zwp 80 (128, [some (.inr (some (16, 0))), some (.inl x1), none, none], [], (S, d)) Q
        replace h := h.1 (zne_f hb)
        refine zwp_blk 2 (c' := (130, [some (.inr (some (16, 0))), some (.inl x1), some (.inl (nI 0)), none], [], (S, d))) rfl ?_
        exact h
    · show zwp 80 (110, [some (.inr (some (16, 0))), some (.inl x1), none, none], [], (S, d)) Q
      replace h := h.1 (zne_f hb)
      refine zwp_blk 4 (c' := (243, [some (.inr (some (16, 0))), some (.inl x1), none, none], [], (zu S 1049 0 0 (nI 2), d))) rfl ?_
      exact h
  · show zwp 80 (10, [some (.inr (some (16, 0))), some (.inl x1), none, none], [], (S, d)) Q
    replace h := h.1 (zne_f hb)
    refine zwp_blk 4 (c' := (17, [some (.inr (some (16, 0))), some (.inl x1), none, none], [.inl x1, .inr (some (21, 0)), .inl (nI 10)], (S, d))) rfl ?_
    obtain ⟨j4, ej4, lj4, h⟩ := h
    refine zwp_ldx (n := 1300) (cd := 1344) (i := 0) (pc' := 18) (ls := [some (.inr (some (16, 0))), some (.inl x1), none, none]) (r := [.inl (nI 10)]) (t := (S, d)) rfl ej4 lj4 (by decide) ?_
    refine zwp_blk 6 (c' := (26, [some (.inr (some (16, 0))), some (.inl x1), some (.inl ((nI 10) * (S 1344 0 j4))), none], [.inl ((nI 10) * (S 1344 0 j4)), .inr (some (26, 0)), .inr (some (16, 0))], (S, d))) rfl ?_
    obtain ⟨j5, ej5, lj5, h⟩ := h
    refine zwp_ldx (n := 1000) (cd := 1664) (i := 0) (pc' := 27) (ls := [some (.inr (some (16, 0))), some (.inl x1), some (.inl ((nI 10) * (S 1344 0 j4))), none]) (r := [.inr (some (16, 0))]) (t := (S, d)) rfl ej5 lj5 (by decide) ?_
    refine zwp_blk 1 (c' := (28, [some (.inr (some (16, 0))), some (.inl x1), some (.inl ((nI 10) * (S 1344 0 j4))), none], [.inl (nI 1), .inl (S 1664 0 j5), .inr (some (16, 0))], (S, d))) rfl ?_
    refine zwp_br rfl (fun hb => ?_) (fun hb => ?_)
    · show zwp 80 (35, [some (.inr (some (16, 0))), some (.inl x1), some (.inl ((nI 10) * (S 1344 0 j4))), none], [.inr (some (16, 0))], (S, d)) Q
      replace h := h.2 (zne_t hb)
      refine zwp_blk 1 (c' := (36, [some (.inr (some (16, 0))), some (.inl x1), some (.inl ((nI 10) * (S 1344 0 j4))), none], [.inl (nI 0), .inr (some (16, 0))], (S, d))) rfl ?_
      exact h
    · show zwp 80 (31, [some (.inr (some (16, 0))), some (.inl x1), some (.inl ((nI 10) * (S 1344 0 j4))), none], [.inr (some (16, 0))], (S, d)) Q
      replace h := h.1 (zne_f hb)
      refine zwp_blk 2 (c' := (36, [some (.inr (some (16, 0))), some (.inl x1), some (.inl ((nI 10) * (S 1344 0 j4))), none], [.inl (nI 1), .inr (some (16, 0))], (S, d))) rfl ?_
      exact h
theorem w80_36 {S : zS} {d : Nat} {Q : zO → zT → Prop} {x1 : Int32} {x2 : Int32} {y0 : Int32} (h : (y0 = 0 ∨ y0 = 1) ∧ (∃ j1 : Nat, x2 + (nI 1) = nI j1 ∧ j1 < 1000 ∧ (zwp 80 (53, [some (.inr (some (16, 0))), some (.inl x1), some (.inl x2), some (.inl (nI 0))], [], (zu (zu S 1048 0 0 y0) 1049 0 0 (S 1664 0 j1), d)) Q))) : zwp 80 (36, [some (.inr (some (16, 0))), some (.inl x1), some (.inl x2), none], [.inl y0, .inr (some (16, 0))], (S, d)) Q := by
  refine zwp_grd (c' := (39, [some (.inr (some (16, 0))), some (.inl x1), some (.inl x2), none], [], (zu S 1048 0 0 y0, d))) rfl (decide_eq_true h.1) ?_
  replace h := h.2
  refine zwp_blk 6 (c' := (47, [some (.inr (some (16, 0))), some (.inl x1), some (.inl x2), none], [.inl (x2 + (nI 1)), .inr (some (26, 0)), .inr (some (16, 0))], (zu S 1048 0 0 y0, d))) rfl ?_
  obtain ⟨j1, ej1, lj1, h⟩ := h
  refine zwp_ldx (n := 1000) (cd := 1664) (i := 0) (pc' := 48) (ls := [some (.inr (some (16, 0))), some (.inl x1), some (.inl x2), none]) (r := [.inr (some (16, 0))]) (t := (zu S 1048 0 0 y0, d)) rfl ej1 lj1 (by decide) ?_
  refine zwp_blk 3 (c' := (53, [some (.inr (some (16, 0))), some (.inl x1), some (.inl x2), some (.inl (nI 0))], [], (zu (zu S 1048 0 0 y0) 1049 0 0 (S 1664 0 j1), d))) rfl ?_
  exact h
theorem w80_53 {S : zS} {d : Nat} {Q : zO → zT → Prop} {x1 : Int32} {x2 : Int32} {x3 : Int32} (h : ((nI 4) ≤ x3 → zwp 80 (243, [some (.inr (some (16, 0))), some (.inl x1), some (.inl x2), some (.inl x3)], [], (S, d)) Q) ∧ (¬ (nI 4) ≤ x3 → ∃ j1 : Nat, (x2 + (nI 2)) + x3 = nI j1 ∧ j1 < 1000 ∧ (∃ j2 : Nat, x3 = nI j2 ∧ j2 < 6 ∧ (∃ j3 : Nat, (x2 + (nI 6)) + x3 = nI j3 ∧ j3 < 1000 ∧ (∃ j4 : Nat, x3 = nI j4 ∧ j4 < 6 ∧ (zwp 80 (53, [some (.inr (some (16, 0))), some (.inl x1), some (.inl x2), some (.inl (x3 + nI 1))], [], (zu (zu S 1984 0 j2 ((S 1664 0 j1))) 2048 0 j4 ((S 1664 0 j3)), d)) Q)))))) : zwp 80 (53, [some (.inr (some (16, 0))), some (.inl x1), some (.inl x2), some (.inl x3)], [], (S, d)) Q := by
  refine zwp_blk 2 (c' := (55, [some (.inr (some (16, 0))), some (.inl x1), some (.inl x2), some (.inl x3)], [.inl (nI 4), .inl x3], (S, d))) rfl ?_
  refine zwp_br rfl (fun hb => ?_) (fun hb => ?_)
  · show zwp 80 (97, [some (.inr (some (16, 0))), some (.inl x1), some (.inl x2), some (.inl x3)], [], (S, d)) Q
    replace h := h.1 (of_decide_eq_true hb)
    refine zwp_blk 1 (c' := (243, [some (.inr (some (16, 0))), some (.inl x1), some (.inl x2), some (.inl x3)], [], (S, d))) rfl ?_
    exact h
  · show zwp 80 (58, [some (.inr (some (16, 0))), some (.inl x1), some (.inl x2), some (.inl x3)], [], (S, d)) Q
    replace h := h.2 (of_decide_eq_false hb)
    refine zwp_blk 10 (c' := (72, [some (.inr (some (16, 0))), some (.inl x1), some (.inl x2), some (.inl x3)], [.inl ((x2 + (nI 2)) + x3), .inr (some (26, 0)), .inl x3, .inr (some (31, 0))], (S, d))) rfl ?_
    obtain ⟨j1, ej1, lj1, h⟩ := h
    refine zwp_ldx (n := 1000) (cd := 1664) (i := 0) (pc' := 73) (ls := [some (.inr (some (16, 0))), some (.inl x1), some (.inl x2), some (.inl x3)]) (r := [.inl x3, .inr (some (31, 0))]) (t := (S, d)) rfl ej1 lj1 (by decide) ?_
    obtain ⟨j2, ej2, lj2, h⟩ := h
    refine zwp_stx (n := 6) (cd := 1984) (i := 0) (v := (S 1664 0 j1)) (pc' := 74) (ls := [some (.inr (some (16, 0))), some (.inl x1), some (.inl x2), some (.inl x3)]) (r := []) (t := (S, d)) rfl ej2 lj2 (by decide) ?_
    refine zwp_blk 10 (c' := (89, [some (.inr (some (16, 0))), some (.inl x1), some (.inl x2), some (.inl x3)], [.inl ((x2 + (nI 6)) + x3), .inr (some (26, 0)), .inl x3, .inr (some (32, 0))], (zu S 1984 0 j2 ((S 1664 0 j1)), d))) rfl ?_
    obtain ⟨j3, ej3, lj3, h⟩ := h
    refine zwp_ldx (n := 1000) (cd := 1664) (i := 0) (pc' := 90) (ls := [some (.inr (some (16, 0))), some (.inl x1), some (.inl x2), some (.inl x3)]) (r := [.inl x3, .inr (some (32, 0))]) (t := (zu S 1984 0 j2 ((S 1664 0 j1)), d)) rfl ej3 lj3 (by decide) ?_
    obtain ⟨j4, ej4, lj4, h⟩ := h
    refine zwp_stx (n := 6) (cd := 2048) (i := 0) (v := (S 1664 0 j3)) (pc' := 91) (ls := [some (.inr (some (16, 0))), some (.inl x1), some (.inl x2), some (.inl x3)]) (r := []) (t := (zu S 1984 0 j2 ((S 1664 0 j1)), d)) rfl ej4 lj4 (by decide) ?_
    refine zwp_blk 2 (c' := (53, [some (.inr (some (16, 0))), some (.inl x1), some (.inl x2), some (.inl (x3 + nI 1))], [], (zu (zu S 1984 0 j2 ((S 1664 0 j1))) 2048 0 j4 ((S 1664 0 j3)), d))) rfl ?_
    exact h
theorem w80_130 {S : zS} {d : Nat} {Q : zO → zT → Prop} {x1 : Int32} {x2 : Int32} (h : ∃ j1 : Nat, x2 = nI j1 ∧ j1 < 6 ∧ (∃ j2 : Nat, x1 = nI j2 ∧ j2 < 1300 ∧ (((S 1984 0 j1) = (S 1472 0 j2) → zwp 80 (156, [some (.inr (some (16, 0))), some (.inl x1), some (.inl x2), some (.inl (S 1049 0 0))], [], (S, d)) Q) ∧ (¬ (S 1984 0 j1) = (S 1472 0 j2) → zwp 80 (130, [some (.inr (some (16, 0))), some (.inl x1), some (.inl (x2 + nI 1)), none], [], (S, d)) Q)))) : zwp 80 (130, [some (.inr (some (16, 0))), some (.inl x1), some (.inl x2), none], [], (S, d)) Q := by
  refine zwp_blk 3 (c' := (135, [some (.inr (some (16, 0))), some (.inl x1), some (.inl x2), none], [.inl x2, .inr (some (31, 0))], (S, d))) rfl ?_
  obtain ⟨j1, ej1, lj1, h⟩ := h
  refine zwp_ldx (n := 6) (cd := 1984) (i := 0) (pc' := 136) (ls := [some (.inr (some (16, 0))), some (.inl x1), some (.inl x2), none]) (r := []) (t := (S, d)) rfl ej1 lj1 (by decide) ?_
  refine zwp_blk 3 (c' := (141, [some (.inr (some (16, 0))), some (.inl x1), some (.inl x2), none], [.inl x1, .inr (some (23, 0)), .inl (S 1984 0 j1)], (S, d))) rfl ?_
  obtain ⟨j2, ej2, lj2, h⟩ := h
  refine zwp_ldx (n := 1300) (cd := 1472) (i := 0) (pc' := 142) (ls := [some (.inr (some (16, 0))), some (.inl x1), some (.inl x2), none]) (r := [.inl (S 1984 0 j1)]) (t := (S, d)) rfl ej2 lj2 (by decide) ?_
  refine zwp_br rfl (fun hb => ?_) (fun hb => ?_)
  · show zwp 80 (151, [some (.inr (some (16, 0))), some (.inl x1), some (.inl x2), none], [], (S, d)) Q
    replace h := h.1 (of_decide_eq_true hb)
    refine zwp_blk 3 (c' := (156, [some (.inr (some (16, 0))), some (.inl x1), some (.inl x2), some (.inl (S 1049 0 0))], [], (S, d))) rfl ?_
    exact h
  · show zwp 80 (145, [some (.inr (some (16, 0))), some (.inl x1), some (.inl x2), none], [], (S, d)) Q
    replace h := h.2 (of_decide_eq_false hb)
    refine zwp_blk 2 (c' := (130, [some (.inr (some (16, 0))), some (.inl x1), some (.inl (x2 + nI 1)), none], [], (S, d))) rfl ?_
    exact h
theorem w80_156 {S : zS} {d : Nat} {Q : zO → zT → Prop} {x1 : Int32} {x2 : Int32} {x3 : Int32} (h : (x3 ≤ (x2 + (nI 1)) → ∃ j1 : Nat, x1 = nI j1 ∧ j1 < 1300 ∧ (∃ j2 : Nat, x2 + (nI 1) = nI j2 ∧ j2 < 6 ∧ (∃ j3 : Nat, x1 = nI j3 ∧ j3 < 1300 ∧ (∃ j4 : Nat, x2 = nI j4 ∧ j4 < 6 ∧ (zwp 80 (243, [some (.inr (some (16, 0))), some (.inl x1), some (.inl x2), some (.inl x3)], [], (zu (zu (zu S 1984 0 j2 ((S 1344 0 j1))) 2048 0 j4 ((S 1280 0 j3))) 1049 0 0 ((S 1049 0 0) + (nI 1)), d)) Q))))) ∧ (¬ x3 ≤ (x2 + (nI 1)) → ∃ j5 : Nat, x3 - (nI 1) = nI j5 ∧ j5 < 6 ∧ (∃ j6 : Nat, x3 = nI j6 ∧ j6 < 6 ∧ (∃ j7 : Nat, x3 - (nI 2) = nI j7 ∧ j7 < 6 ∧ (∃ j8 : Nat, x3 - (nI 1) = nI j8 ∧ j8 < 6 ∧ (zwp 80 (156, [some (.inr (some (16, 0))), some (.inl x1), some (.inl x2), some (.inl (x3 + zint (-1)))], [], (zu (zu S 1984 0 j6 ((S 1984 0 j5))) 2048 0 j8 ((S 2048 0 j7)), d)) Q)))))) : zwp 80 (156, [some (.inr (some (16, 0))), some (.inl x1), some (.inl x2), some (.inl x3)], [], (S, d)) Q := by
  refine zwp_blk 4 (c' := (160, [some (.inr (some (16, 0))), some (.inl x1), some (.inl x2), some (.inl x3)], [.inl (x2 + (nI 1)), .inl x3], (S, d))) rfl ?_
  refine zwp_br rfl (fun hb => ?_) (fun hb => ?_)
  · show zwp 80 (199, [some (.inr (some (16, 0))), some (.inl x1), some (.inl x2), some (.inl x3)], [], (S, d)) Q
    replace h := h.1 (of_decide_eq_true hb)
    refine zwp_blk 8 (c' := (211, [some (.inr (some (16, 0))), some (.inl x1), some (.inl x2), some (.inl x3)], [.inl x1, .inr (some (21, 0)), .inl (x2 + (nI 1)), .inr (some (31, 0))], (S, d))) rfl ?_
    obtain ⟨j1, ej1, lj1, h⟩ := h
    refine zwp_ldx (n := 1300) (cd := 1344) (i := 0) (pc' := 212) (ls := [some (.inr (some (16, 0))), some (.inl x1), some (.inl x2), some (.inl x3)]) (r := [.inl (x2 + (nI 1)), .inr (some (31, 0))]) (t := (S, d)) rfl ej1 lj1 (by decide) ?_
    obtain ⟨j2, ej2, lj2, h⟩ := h
    refine zwp_stx (n := 6) (cd := 1984) (i := 0) (v := (S 1344 0 j1)) (pc' := 213) (ls := [some (.inr (some (16, 0))), some (.inl x1), some (.inl x2), some (.inl x3)]) (r := []) (t := (S, d)) rfl ej2 lj2 (by decide) ?_
    refine zwp_blk 6 (c' := (223, [some (.inr (some (16, 0))), some (.inl x1), some (.inl x2), some (.inl x3)], [.inl x1, .inr (some (20, 0)), .inl x2, .inr (some (32, 0))], (zu S 1984 0 j2 ((S 1344 0 j1)), d))) rfl ?_
    obtain ⟨j3, ej3, lj3, h⟩ := h
    refine zwp_ldx (n := 1300) (cd := 1280) (i := 0) (pc' := 224) (ls := [some (.inr (some (16, 0))), some (.inl x1), some (.inl x2), some (.inl x3)]) (r := [.inl x2, .inr (some (32, 0))]) (t := (zu S 1984 0 j2 ((S 1344 0 j1)), d)) rfl ej3 lj3 (by decide) ?_
    obtain ⟨j4, ej4, lj4, h⟩ := h
    refine zwp_stx (n := 6) (cd := 2048) (i := 0) (v := (S 1280 0 j3)) (pc' := 225) (ls := [some (.inr (some (16, 0))), some (.inl x1), some (.inl x2), some (.inl x3)]) (r := []) (t := (zu S 1984 0 j2 ((S 1344 0 j1)), d)) rfl ej4 lj4 (by decide) ?_
    refine zwp_blk 7 (c' := (243, [some (.inr (some (16, 0))), some (.inl x1), some (.inl x2), some (.inl x3)], [], (zu (zu (zu S 1984 0 j2 ((S 1344 0 j1))) 2048 0 j4 ((S 1280 0 j3))) 1049 0 0 ((S 1049 0 0) + (nI 1)), d))) rfl ?_
    exact h
  · show zwp 80 (163, [some (.inr (some (16, 0))), some (.inl x1), some (.inl x2), some (.inl x3)], [], (S, d)) Q
    replace h := h.2 (of_decide_eq_false hb)
    refine zwp_blk 8 (c' := (175, [some (.inr (some (16, 0))), some (.inl x1), some (.inl x2), some (.inl x3)], [.inl (x3 - (nI 1)), .inr (some (31, 0)), .inl x3, .inr (some (31, 0))], (S, d))) rfl ?_
    obtain ⟨j5, ej5, lj5, h⟩ := h
    refine zwp_ldx (n := 6) (cd := 1984) (i := 0) (pc' := 176) (ls := [some (.inr (some (16, 0))), some (.inl x1), some (.inl x2), some (.inl x3)]) (r := [.inl x3, .inr (some (31, 0))]) (t := (S, d)) rfl ej5 lj5 (by decide) ?_
    obtain ⟨j6, ej6, lj6, h⟩ := h
    refine zwp_stx (n := 6) (cd := 1984) (i := 0) (v := (S 1984 0 j5)) (pc' := 177) (ls := [some (.inr (some (16, 0))), some (.inl x1), some (.inl x2), some (.inl x3)]) (r := []) (t := (S, d)) rfl ej6 lj6 (by decide) ?_
    refine zwp_blk 10 (c' := (191, [some (.inr (some (16, 0))), some (.inl x1), some (.inl x2), some (.inl x3)], [.inl (x3 - (nI 2)), .inr (some (32, 0)), .inl (x3 - (nI 1)), .inr (some (32, 0))], (zu S 1984 0 j6 ((S 1984 0 j5)), d))) rfl ?_
    obtain ⟨j7, ej7, lj7, h⟩ := h
    refine zwp_ldx (n := 6) (cd := 2048) (i := 0) (pc' := 192) (ls := [some (.inr (some (16, 0))), some (.inl x1), some (.inl x2), some (.inl x3)]) (r := [.inl (x3 - (nI 1)), .inr (some (32, 0))]) (t := (zu S 1984 0 j6 ((S 1984 0 j5)), d)) rfl ej7 lj7 (by decide) ?_
    obtain ⟨j8, ej8, lj8, h⟩ := h
    refine zwp_stx (n := 6) (cd := 2048) (i := 0) (v := (S 2048 0 j7)) (pc' := 193) (ls := [some (.inr (some (16, 0))), some (.inl x1), some (.inl x2), some (.inl x3)]) (r := []) (t := (zu S 1984 0 j6 ((S 1984 0 j5)), d)) rfl ej8 lj8 (by decide) ?_
    refine zwp_blk 2 (c' := (156, [some (.inr (some (16, 0))), some (.inl x1), some (.inl x2), some (.inl (x3 + zint (-1)))], [], (zu (zu S 1984 0 j6 ((S 1984 0 j5))) 2048 0 j8 ((S 2048 0 j7)), d))) rfl ?_
    exact h
theorem w80_243 {S : zS} {d : Nat} {Q : zO → zT → Prop} {x1 : Int32} {x2 : Option zV} {x3 : Option zV} (h : Q (.inl none) (S, d)) : zwp 80 (243, [some (.inr (some (16, 0))), some (.inl x1), x2, x3], [], (S, d)) Q := by
  exact zwp_end rfl h
-- 81 PageKeeperModel.replayEntry
theorem w81_0 {S : zS} {d : Nat} {Q : zO → zT → Prop} {x1 : Int32} (h : zwp 81 (2, [some (.inr (some (16, 0))), some (.inl x1), some (.inl (nI 0)), none, none], [], (S, d)) Q) : zwp 81 (0, [some (.inr (some (16, 0))), some (.inl x1), none, none, none], [], (S, d)) Q := by
  refine zwp_blk 2 (c' := (2, [some (.inr (some (16, 0))), some (.inl x1), some (.inl (nI 0)), none, none], [], (S, d))) rfl ?_
  exact h
theorem w81_2 {S : zS} {d : Nat} {Q : zO → zT → Prop} {x1 : Int32} {x2 : Int32} (h : ((S 1049 0 0) ≤ x2 → zwp 81 (31, [some (.inr (some (16, 0))), some (.inl x1), some (.inl x2), none, none], [], (S, d)) Q) ∧ (¬ (S 1049 0 0) ≤ x2 → ∃ j1 : Nat, x2 = nI j1 ∧ j1 < 6 ∧ (∃ j2 : Nat, x1 = nI j2 ∧ j2 < 1300 ∧ (((S 1280 0 j2) ≤ (S 1984 0 j1) → zwp 81 (31, [some (.inr (some (16, 0))), some (.inl x1), some (.inl x2), none, none], [], (S, d)) Q) ∧ (¬ (S 1280 0 j2) ≤ (S 1984 0 j1) → zwp 81 (2, [some (.inr (some (16, 0))), some (.inl x1), some (.inl (x2 + nI 1)), none, none], [], (S, d)) Q))))) : zwp 81 (2, [some (.inr (some (16, 0))), some (.inl x1), some (.inl x2), none, none], [], (S, d)) Q := by
  refine zwp_blk 3 (c' := (7, [some (.inr (some (16, 0))), some (.inl x1), some (.inl x2), none, none], [.inl (S 1049 0 0), .inl x2], (S, d))) rfl ?_
  refine zwp_br rfl (fun hb => ?_) (fun hb => ?_)
  · show zwp 81 (31, [some (.inr (some (16, 0))), some (.inl x1), some (.inl x2), none, none], [], (S, d)) Q
    replace h := h.1 (of_decide_eq_true hb)
    exact h
  · show zwp 81 (10, [some (.inr (some (16, 0))), some (.inl x1), some (.inl x2), none, none], [], (S, d)) Q
    replace h := h.2 (of_decide_eq_false hb)
    refine zwp_blk 3 (c' := (15, [some (.inr (some (16, 0))), some (.inl x1), some (.inl x2), none, none], [.inl x2, .inr (some (31, 0))], (S, d))) rfl ?_
    obtain ⟨j1, ej1, lj1, h⟩ := h
    refine zwp_ldx (n := 6) (cd := 1984) (i := 0) (pc' := 16) (ls := [some (.inr (some (16, 0))), some (.inl x1), some (.inl x2), none, none]) (r := []) (t := (S, d)) rfl ej1 lj1 (by decide) ?_
    refine zwp_blk 3 (c' := (21, [some (.inr (some (16, 0))), some (.inl x1), some (.inl x2), none, none], [.inl x1, .inr (some (20, 0)), .inl (S 1984 0 j1)], (S, d))) rfl ?_
    obtain ⟨j2, ej2, lj2, h⟩ := h
    refine zwp_ldx (n := 1300) (cd := 1280) (i := 0) (pc' := 22) (ls := [some (.inr (some (16, 0))), some (.inl x1), some (.inl x2), none, none]) (r := [.inl (S 1984 0 j1)]) (t := (S, d)) rfl ej2 lj2 (by decide) ?_
    refine zwp_br rfl (fun hb => ?_) (fun hb => ?_)
    · show zwp 81 (31, [some (.inr (some (16, 0))), some (.inl x1), some (.inl x2), none, none], [], (S, d)) Q
      replace h := h.1 (of_decide_eq_true hb)
      exact h
    · show zwp 81 (25, [some (.inr (some (16, 0))), some (.inl x1), some (.inl x2), none, none], [], (S, d)) Q
      replace h := h.2 (of_decide_eq_false hb)
      refine zwp_blk 2 (c' := (2, [some (.inr (some (16, 0))), some (.inl x1), some (.inl (x2 + nI 1)), none, none], [], (S, d))) rfl ?_
      exact h
theorem w81_31 {S : zS} {d : Nat} {Q : zO → zT → Prop} {x1 : Int32} {x2 : Int32} (h : ((S 1049 0 0) ≤ x2 → zwp 81 (59, [some (.inr (some (16, 0))), some (.inl x1), some (.inl x2), none, none], [.inl (nI 0)], (S, d)) Q) ∧ (¬ (S 1049 0 0) ≤ x2 → ∃ j1 : Nat, x2 = nI j1 ∧ j1 < 6 ∧ (∃ j2 : Nat, x1 = nI j2 ∧ j2 < 1300 ∧ (((S 1984 0 j1) = (S 1280 0 j2) → zwp 81 (59, [some (.inr (some (16, 0))), some (.inl x1), some (.inl x2), none, none], [.inl (nI 1)], (S, d)) Q) ∧ (¬ (S 1984 0 j1) = (S 1280 0 j2) → zwp 81 (59, [some (.inr (some (16, 0))), some (.inl x1), some (.inl x2), none, none], [.inl (nI 0)], (S, d)) Q))))) : zwp 81 (31, [some (.inr (some (16, 0))), some (.inl x1), some (.inl x2), none, none], [], (S, d)) Q := by
  refine zwp_blk 3 (c' := (36, [some (.inr (some (16, 0))), some (.inl x1), some (.inl x2), none, none], [.inl (S 1049 0 0), .inl x2], (S, d))) rfl ?_
  refine zwp_br rfl (fun hb => ?_) (fun hb => ?_)
  · show zwp 81 (58, [some (.inr (some (16, 0))), some (.inl x1), some (.inl x2), none, none], [], (S, d)) Q
    replace h := h.1 (of_decide_eq_true hb)
    refine zwp_blk 1 (c' := (59, [some (.inr (some (16, 0))), some (.inl x1), some (.inl x2), none, none], [.inl (nI 0)], (S, d))) rfl ?_
    exact h
  · show zwp 81 (39, [some (.inr (some (16, 0))), some (.inl x1), some (.inl x2), none, none], [], (S, d)) Q
    replace h := h.2 (of_decide_eq_false hb)
    refine zwp_blk 3 (c' := (44, [some (.inr (some (16, 0))), some (.inl x1), some (.inl x2), none, none], [.inl x2, .inr (some (31, 0))], (S, d))) rfl ?_
    obtain ⟨j1, ej1, lj1, h⟩ := h
    refine zwp_ldx (n := 6) (cd := 1984) (i := 0) (pc' := 45) (ls := [some (.inr (some (16, 0))), some (.inl x1), some (.inl x2), none, none]) (r := []) (t := (S, d)) rfl ej1 lj1 (by decide) ?_
    refine zwp_blk 3 (c' := (50, [some (.inr (some (16, 0))), some (.inl x1), some (.inl x2), none, none], [.inl x1, .inr (some (20, 0)), .inl (S 1984 0 j1)], (S, d))) rfl ?_
    obtain ⟨j2, ej2, lj2, h⟩ := h
    refine zwp_ldx (n := 1300) (cd := 1280) (i := 0) (pc' := 51) (ls := [some (.inr (some (16, 0))), some (.inl x1), some (.inl x2), none, none]) (r := [.inl (S 1984 0 j1)]) (t := (S, d)) rfl ej2 lj2 (by decide) ?_
    refine zwp_br rfl (fun hb => ?_) (fun hb => ?_)
    · show zwp 81 (58, [some (.inr (some (16, 0))), some (.inl x1), some (.inl x2), none, none], [], (S, d)) Q
      replace h := h.2 (zne_t hb)
      refine zwp_blk 1 (c' := (59, [some (.inr (some (16, 0))), some (.inl x1), some (.inl x2), none, none], [.inl (nI 0)], (S, d))) rfl ?_
      exact h
    · show zwp 81 (54, [some (.inr (some (16, 0))), some (.inl x1), some (.inl x2), none, none], [], (S, d)) Q
      replace h := h.1 (zne_f hb)
      refine zwp_blk 2 (c' := (59, [some (.inr (some (16, 0))), some (.inl x1), some (.inl x2), none, none], [.inl (nI 1)], (S, d))) rfl ?_
      exact h
theorem w81_59 {S : zS} {d : Nat} {Q : zO → zT → Prop} {x1 : Int32} {x2 : Int32} {y0 : Int32} (h : ∃ j1 : Nat, x1 = nI j1 ∧ j1 < 1300 ∧ (((S 1088 0 j1) = (nI 2) → zwp 81 (83, [some (.inr (some (16, 0))), some (.inl x1), some (.inl x2), some (.inl y0), some (.inl x2)], [], (zu S 1049 0 0 ((S 1049 0 0) - (nI 1)), d)) Q) ∧ (¬ (S 1088 0 j1) = (nI 2) → (y0 = 0 → zwp 81 (141, [some (.inr (some (16, 0))), some (.inl x1), some (.inl x2), some (.inl y0), some (.inl (S 1049 0 0))], [], (S, d)) Q) ∧ (¬ y0 = 0 → zwp 81 (195, [some (.inr (some (16, 0))), some (.inl x1), some (.inl x2), some (.inl y0), none], [], (S, d)) Q)))) : zwp 81 (59, [some (.inr (some (16, 0))), some (.inl x1), some (.inl x2), none, none], [.inl y0], (S, d)) Q := by
  refine zwp_blk 4 (c' := (65, [some (.inr (some (16, 0))), some (.inl x1), some (.inl x2), some (.inl y0), none], [.inl x1, .inr (some (17, 0))], (S, d))) rfl ?_
  obtain ⟨j1, ej1, lj1, h⟩ := h
  refine zwp_ldx (n := 1300) (cd := 1088) (i := 0) (pc' := 66) (ls := [some (.inr (some (16, 0))), some (.inl x1), some (.inl x2), some (.inl y0), none]) (r := []) (t := (S, d)) rfl ej1 lj1 (by decide) ?_
  refine zwp_blk 1 (c' := (67, [some (.inr (some (16, 0))), some (.inl x1), some (.inl x2), some (.inl y0), none], [.inl (nI 2), .inl (S 1088 0 j1)], (S, d))) rfl ?_
  refine zwp_br rfl (fun hb => ?_) (fun hb => ?_)
  · show zwp 81 (131, [some (.inr (some (16, 0))), some (.inl x1), some (.inl x2), some (.inl y0), none], [], (S, d)) Q
    replace h := h.2 (zne_t hb)
    refine zwp_blk 1 (c' := (132, [some (.inr (some (16, 0))), some (.inl x1), some (.inl x2), some (.inl y0), none], [.inl y0], (S, d))) rfl ?_
    refine zwp_br rfl (fun hb => ?_) (fun hb => ?_)
    · show zwp 81 (195, [some (.inr (some (16, 0))), some (.inl x1), some (.inl x2), some (.inl y0), none], [], (S, d)) Q
      replace h := h.2 (zne_t hb)
      exact h
    · show zwp 81 (135, [some (.inr (some (16, 0))), some (.inl x1), some (.inl x2), some (.inl y0), none], [], (S, d)) Q
      replace h := h.1 (zne_f hb)
      refine zwp_blk 3 (c' := (141, [some (.inr (some (16, 0))), some (.inl x1), some (.inl x2), some (.inl y0), some (.inl (S 1049 0 0))], [], (S, d))) rfl ?_
      exact h
  · show zwp 81 (70, [some (.inr (some (16, 0))), some (.inl x1), some (.inl x2), some (.inl y0), none], [], (S, d)) Q
    replace h := h.1 (zne_f hb)
    refine zwp_blk 8 (c' := (83, [some (.inr (some (16, 0))), some (.inl x1), some (.inl x2), some (.inl y0), some (.inl x2)], [], (zu S 1049 0 0 ((S 1049 0 0) - (nI 1)), d))) rfl ?_
    exact h
theorem w81_83 {S : zS} {d : Nat} {Q : zO → zT → Prop} {x1 : Int32} {x2 : Int32} {x3 : Int32} {x4 : Int32} (h : ((S 1049 0 0) ≤ x4 → Q (.inl none) (S, d)) ∧ (¬ (S 1049 0 0) ≤ x4 → ∃ j1 : Nat, x4 + (nI 1) = nI j1 ∧ j1 < 6 ∧ (∃ j2 : Nat, x4 = nI j2 ∧ j2 < 6 ∧ (∃ j3 : Nat, x4 + (nI 1) = nI j3 ∧ j3 < 6 ∧ (∃ j4 : Nat, x4 = nI j4 ∧ j4 < 6 ∧ (zwp 81 (83, [some (.inr (some (16, 0))), some (.inl x1), some (.inl x2), some (.inl x3), some (.inl (x4 + nI 1))], [], (zu (zu S 1984 0 j2 ((S 1984 0 j1))) 2048 0 j4 ((S 2048 0 j3)), d)) Q)))))) : zwp 81 (83, [some (.inr (some (16, 0))), some (.inl x1), some (.inl x2), some (.inl x3), some (.inl x4)], [], (S, d)) Q := by
  refine zwp_blk 3 (c' := (89, [some (.inr (some (16, 0))), some (.inl x1), some (.inl x2), some (.inl x3), some (.inl x4)], [.inl (S 1049 0 0), .inl x4], (S, d))) rfl ?_
  refine zwp_br rfl (fun hb => ?_) (fun hb => ?_)
  · show zwp 81 (130, [some (.inr (some (16, 0))), some (.inl x1), some (.inl x2), some (.inl x3), some (.inl x4)], [], (S, d)) Q
    replace h := h.1 (of_decide_eq_true hb)
    exact zwp_end rfl h
  · show zwp 81 (92, [some (.inr (some (16, 0))), some (.inl x1), some (.inl x2), some (.inl x3), some (.inl x4)], [], (S, d)) Q
    replace h := h.2 (of_decide_eq_false hb)
    refine zwp_blk 8 (c' := (106, [some (.inr (some (16, 0))), some (.inl x1), some (.inl x2), some (.inl x3), some (.inl x4)], [.inl (x4 + (nI 1)), .inr (some (31, 0)), .inl x4, .inr (some (31, 0))], (S, d))) rfl ?_
    obtain ⟨j1, ej1, lj1, h⟩ := h
    refine zwp_ldx (n := 6) (cd := 1984) (i := 0) (pc' := 107) (ls := [some (.inr (some (16, 0))), some (.inl x1), some (.inl x2), some (.inl x3), some (.inl x4)]) (r := [.inl x4, .inr (some (31, 0))]) (t := (S, d)) rfl ej1 lj1 (by decide) ?_
    obtain ⟨j2, ej2, lj2, h⟩ := h
    refine zwp_stx (n := 6) (cd := 1984) (i := 0) (v := (S 1984 0 j1)) (pc' := 108) (ls := [some (.inr (some (16, 0))), some (.inl x1), some (.inl x2), some (.inl x3), some (.inl x4)]) (r := []) (t := (S, d)) rfl ej2 lj2 (by decide) ?_
    refine zwp_blk 8 (c' := (122, [some (.inr (some (16, 0))), some (.inl x1), some (.inl x2), some (.inl x3), some (.inl x4)], [.inl (x4 + (nI 1)), .inr (some (32, 0)), .inl x4, .inr (some (32, 0))], (zu S 1984 0 j2 ((S 1984 0 j1)), d))) rfl ?_
    obtain ⟨j3, ej3, lj3, h⟩ := h
    refine zwp_ldx (n := 6) (cd := 2048) (i := 0) (pc' := 123) (ls := [some (.inr (some (16, 0))), some (.inl x1), some (.inl x2), some (.inl x3), some (.inl x4)]) (r := [.inl x4, .inr (some (32, 0))]) (t := (zu S 1984 0 j2 ((S 1984 0 j1)), d)) rfl ej3 lj3 (by decide) ?_
    obtain ⟨j4, ej4, lj4, h⟩ := h
    refine zwp_stx (n := 6) (cd := 2048) (i := 0) (v := (S 2048 0 j3)) (pc' := 124) (ls := [some (.inr (some (16, 0))), some (.inl x1), some (.inl x2), some (.inl x3), some (.inl x4)]) (r := []) (t := (zu S 1984 0 j2 ((S 1984 0 j1)), d)) rfl ej4 lj4 (by decide) ?_
    refine zwp_blk 2 (c' := (83, [some (.inr (some (16, 0))), some (.inl x1), some (.inl x2), some (.inl x3), some (.inl (x4 + nI 1))], [], (zu (zu S 1984 0 j2 ((S 1984 0 j1))) 2048 0 j4 ((S 2048 0 j3)), d))) rfl ?_
    exact h
theorem w81_141 {S : zS} {d : Nat} {Q : zO → zT → Prop} {x1 : Int32} {x2 : Int32} {x3 : Int32} {x4 : Int32} (h : (x4 ≤ x2 → zwp 81 (195, [some (.inr (some (16, 0))), some (.inl x1), some (.inl x2), some (.inl x3), some (.inl x4)], [], (zu S 1049 0 0 ((S 1049 0 0) + (nI 1)), d)) Q) ∧ (¬ x4 ≤ x2 → ∃ j1 : Nat, x4 - (nI 1) = nI j1 ∧ j1 < 6 ∧ (∃ j2 : Nat, x4 = nI j2 ∧ j2 < 6 ∧ (∃ j3 : Nat, x4 - (nI 1) = nI j3 ∧ j3 < 6 ∧ (∃ j4 : Nat, x4 = nI j4 ∧ j4 < 6 ∧ (zwp 81 (141, [some (.inr (some (16, 0))), some (.inl x1), some (.inl x2), some (.inl x3), some (.inl (x4 + zint (-1)))], [], (zu (zu S 1984 0 j2 ((S 1984 0 j1))) 2048 0 j4 ((S 2048 0 j3)), d)) Q)))))) : zwp 81 (141, [some (.inr (some (16, 0))), some (.inl x1), some (.inl x2), some (.inl x3), some (.inl x4)], [], (S, d)) Q := by
  refine zwp_blk 2 (c' := (144, [some (.inr (some (16, 0))), some (.inl x1), some (.inl x2), some (.inl x3), some (.inl x4)], [.inl x2, .inl x4], (S, d))) rfl ?_
  refine zwp_br rfl (fun hb => ?_) (fun hb => ?_)
  · show zwp 81 (185, [some (.inr (some (16, 0))), some (.inl x1), some (.inl x2), some (.inl x3), some (.inl x4)], [], (S, d)) Q
    replace h := h.1 (of_decide_eq_true hb)
    refine zwp_blk 6 (c' := (195, [some (.inr (some (16, 0))), some (.inl x1), some (.inl x2), some (.inl x3), some (.inl x4)], [], (zu S 1049 0 0 ((S 1049 0 0) + (nI 1)), d))) rfl ?_
    exact h
  · show zwp 81 (147, [some (.inr (some (16, 0))), some (.inl x1), some (.inl x2), some (.inl x3), some (.inl x4)], [], (S, d)) Q
    replace h := h.2 (of_decide_eq_false hb)
    refine zwp_blk 8 (c' := (161, [some (.inr (some (16, 0))), some (.inl x1), some (.inl x2), some (.inl x3), some (.inl x4)], [.inl (x4 - (nI 1)), .inr (some (31, 0)), .inl x4, .inr (some (31, 0))], (S, d))) rfl ?_
    obtain ⟨j1, ej1, lj1, h⟩ := h
    refine zwp_ldx (n := 6) (cd := 1984) (i := 0) (pc' := 162) (ls := [some (.inr (some (16, 0))), some (.inl x1), some (.inl x2), some (.inl x3), some (.inl x4)]) (r := [.inl x4, .inr (some (31, 0))]) (t := (S, d)) rfl ej1 lj1 (by decide) ?_
    obtain ⟨j2, ej2, lj2, h⟩ := h
    refine zwp_stx (n := 6) (cd := 1984) (i := 0) (v := (S 1984 0 j1)) (pc' := 163) (ls := [some (.inr (some (16, 0))), some (.inl x1), some (.inl x2), some (.inl x3), some (.inl x4)]) (r := []) (t := (S, d)) rfl ej2 lj2 (by decide) ?_
    refine zwp_blk 8 (c' := (177, [some (.inr (some (16, 0))), some (.inl x1), some (.inl x2), some (.inl x3), some (.inl x4)], [.inl (x4 - (nI 1)), .inr (some (32, 0)), .inl x4, .inr (some (32, 0))], (zu S 1984 0 j2 ((S 1984 0 j1)), d))) rfl ?_
    obtain ⟨j3, ej3, lj3, h⟩ := h
    refine zwp_ldx (n := 6) (cd := 2048) (i := 0) (pc' := 178) (ls := [some (.inr (some (16, 0))), some (.inl x1), some (.inl x2), some (.inl x3), some (.inl x4)]) (r := [.inl x4, .inr (some (32, 0))]) (t := (zu S 1984 0 j2 ((S 1984 0 j1)), d)) rfl ej3 lj3 (by decide) ?_
    obtain ⟨j4, ej4, lj4, h⟩ := h
    refine zwp_stx (n := 6) (cd := 2048) (i := 0) (v := (S 2048 0 j3)) (pc' := 179) (ls := [some (.inr (some (16, 0))), some (.inl x1), some (.inl x2), some (.inl x3), some (.inl x4)]) (r := []) (t := (zu S 1984 0 j2 ((S 1984 0 j1)), d)) rfl ej4 lj4 (by decide) ?_
    refine zwp_blk 2 (c' := (141, [some (.inr (some (16, 0))), some (.inl x1), some (.inl x2), some (.inl x3), some (.inl (x4 + zint (-1)))], [], (zu (zu S 1984 0 j2 ((S 1984 0 j1))) 2048 0 j4 ((S 2048 0 j3)), d))) rfl ?_
    exact h
theorem w81_195 {S : zS} {d : Nat} {Q : zO → zT → Prop} {x1 : Int32} {x2 : Int32} {x3 : Int32} {x4 : Option zV} (h : ∃ j1 : Nat, x1 = nI j1 ∧ j1 < 1300 ∧ (∃ j2 : Nat, x2 = nI j2 ∧ j2 < 6 ∧ (∃ j3 : Nat, x1 = nI j3 ∧ j3 < 1300 ∧ (∃ j4 : Nat, x2 = nI j4 ∧ j4 < 6 ∧ (Q (.inl none) (zu (zu S 1984 0 j2 ((S 1280 0 j1))) 2048 0 j4 ((S 1344 0 j3)), d)))))) : zwp 81 (195, [some (.inr (some (16, 0))), some (.inl x1), some (.inl x2), some (.inl x3), x4], [], (S, d)) Q := by
  refine zwp_blk 6 (c' := (205, [some (.inr (some (16, 0))), some (.inl x1), some (.inl x2), some (.inl x3), x4], [.inl x1, .inr (some (20, 0)), .inl x2, .inr (some (31, 0))], (S, d))) rfl ?_
  obtain ⟨j1, ej1, lj1, h⟩ := h
  refine zwp_ldx (n := 1300) (cd := 1280) (i := 0) (pc' := 206) (ls := [some (.inr (some (16, 0))), some (.inl x1), some (.inl x2), some (.inl x3), x4]) (r := [.inl x2, .inr (some (31, 0))]) (t := (S, d)) rfl ej1 lj1 (by decide) ?_
  obtain ⟨j2, ej2, lj2, h⟩ := h
  refine zwp_stx (n := 6) (cd := 1984) (i := 0) (v := (S 1280 0 j1)) (pc' := 207) (ls := [some (.inr (some (16, 0))), some (.inl x1), some (.inl x2), some (.inl x3), x4]) (r := []) (t := (S, d)) rfl ej2 lj2 (by decide) ?_
  refine zwp_blk 6 (c' := (217, [some (.inr (some (16, 0))), some (.inl x1), some (.inl x2), some (.inl x3), x4], [.inl x1, .inr (some (21, 0)), .inl x2, .inr (some (32, 0))], (zu S 1984 0 j2 ((S 1280 0 j1)), d))) rfl ?_
  obtain ⟨j3, ej3, lj3, h⟩ := h
  refine zwp_ldx (n := 1300) (cd := 1344) (i := 0) (pc' := 218) (ls := [some (.inr (some (16, 0))), some (.inl x1), some (.inl x2), some (.inl x3), x4]) (r := [.inl x2, .inr (some (32, 0))]) (t := (zu S 1984 0 j2 ((S 1280 0 j1)), d)) rfl ej3 lj3 (by decide) ?_
  obtain ⟨j4, ej4, lj4, h⟩ := h
  refine zwp_stx (n := 6) (cd := 2048) (i := 0) (v := (S 1344 0 j3)) (pc' := 219) (ls := [some (.inr (some (16, 0))), some (.inl x1), some (.inl x2), some (.inl x3), x4]) (r := []) (t := (zu S 1984 0 j2 ((S 1280 0 j1)), d)) rfl ej4 lj4 (by decide) ?_
  exact zwp_end rfl h
-- 82 PageKeeperModel.entry
theorem w82_0 {S : zS} {d : Nat} {Q : zO → zT → Prop} {x1 : Int32} (h : zwp 82 (2, [some (.inr (some (16, 0))), some (.inl x1), some (.inl (nI 0))], [], (S, d)) Q) : zwp 82 (0, [some (.inr (some (16, 0))), some (.inl x1), none], [], (S, d)) Q := by
  refine zwp_blk 2 (c' := (2, [some (.inr (some (16, 0))), some (.inl x1), some (.inl (nI 0))], [], (S, d))) rfl ?_
  exact h
theorem w82_2 {S : zS} {d : Nat} {Q : zO → zT → Prop} {x1 : Int32} {x2 : Int32} (h : ((S 1049 0 0) ≤ x2 → Q (.inl (some (.inl (zint (-1))))) (S, d)) ∧ (¬ (S 1049 0 0) ≤ x2 → ∃ j1 : Nat, x2 = nI j1 ∧ j1 < 6 ∧ (((S 1984 0 j1) = x1 → Q (.inl (some (.inl x2))) (S, d)) ∧ (¬ (S 1984 0 j1) = x1 → zwp 82 (2, [some (.inr (some (16, 0))), some (.inl x1), some (.inl (x2 + nI 1))], [], (S, d)) Q)))) : zwp 82 (2, [some (.inr (some (16, 0))), some (.inl x1), some (.inl x2)], [], (S, d)) Q := by
  refine zwp_blk 3 (c' := (7, [some (.inr (some (16, 0))), some (.inl x1), some (.inl x2)], [.inl (S 1049 0 0), .inl x2], (S, d))) rfl ?_
  refine zwp_br rfl (fun hb => ?_) (fun hb => ?_)
  · show zwp 82 (28, [some (.inr (some (16, 0))), some (.inl x1), some (.inl x2)], [], (S, d)) Q
    replace h := h.1 (of_decide_eq_true hb)
    refine zwp_blk 1 (c' := (29, [some (.inr (some (16, 0))), some (.inl x1), some (.inl x2)], [.inl (zint (-1))], (S, d))) rfl ?_
    exact zwp_end rfl h
  · show zwp 82 (10, [some (.inr (some (16, 0))), some (.inl x1), some (.inl x2)], [], (S, d)) Q
    replace h := h.2 (of_decide_eq_false hb)
    refine zwp_blk 3 (c' := (15, [some (.inr (some (16, 0))), some (.inl x1), some (.inl x2)], [.inl x2, .inr (some (31, 0))], (S, d))) rfl ?_
    obtain ⟨j1, ej1, lj1, h⟩ := h
    refine zwp_ldx (n := 6) (cd := 1984) (i := 0) (pc' := 16) (ls := [some (.inr (some (16, 0))), some (.inl x1), some (.inl x2)]) (r := []) (t := (S, d)) rfl ej1 lj1 (by decide) ?_
    refine zwp_blk 1 (c' := (17, [some (.inr (some (16, 0))), some (.inl x1), some (.inl x2)], [.inl x1, .inl (S 1984 0 j1)], (S, d))) rfl ?_
    refine zwp_br rfl (fun hb => ?_) (fun hb => ?_)
    · show zwp 82 (22, [some (.inr (some (16, 0))), some (.inl x1), some (.inl x2)], [], (S, d)) Q
      replace h := h.2 (zne_t hb)
      refine zwp_blk 2 (c' := (2, [some (.inr (some (16, 0))), some (.inl x1), some (.inl (x2 + nI 1))], [], (S, d))) rfl ?_
      exact h
    · show zwp 82 (20, [some (.inr (some (16, 0))), some (.inl x1), some (.inl x2)], [], (S, d)) Q
      replace h := h.1 (zne_f hb)
      refine zwp_blk 1 (c' := (21, [some (.inr (some (16, 0))), some (.inl x1), some (.inl x2)], [.inl x2], (S, d))) rfl ?_
      exact zwp_end rfl h
-- 83 PageKeeperModel.force
theorem w83_0 {S : zS} {d : Nat} {Q : zO → zT → Prop} {x1 : Int32} (h : ∃ j1 : Nat, x1 = nI j1 ∧ j1 < 1300 ∧ (((S 1600 0 j1) ≤ x1 → zwp 83 (20, [some (.inr (some (16, 0))), some (.inl x1), none], [.inl x1], (S, d)) Q) ∧ (¬ (S 1600 0 j1) ≤ x1 → ∃ j2 : Nat, x1 = nI j2 ∧ j2 < 1300 ∧ (zwp 83 (20, [some (.inr (some (16, 0))), some (.inl x1), none], [.inl (S 1600 0 j2)], (S, d)) Q)))) : zwp 83 (0, [some (.inr (some (16, 0))), some (.inl x1), none], [], (S, d)) Q := by
  refine zwp_blk 3 (c' := (5, [some (.inr (some (16, 0))), some (.inl x1), none], [.inl x1, .inr (some (25, 0))], (S, d))) rfl ?_
  obtain ⟨j1, ej1, lj1, h⟩ := h
  refine zwp_ldx (n := 1300) (cd := 1600) (i := 0) (pc' := 6) (ls := [some (.inr (some (16, 0))), some (.inl x1), none]) (r := []) (t := (S, d)) rfl ej1 lj1 (by decide) ?_
  refine zwp_blk 1 (c' := (7, [some (.inr (some (16, 0))), some (.inl x1), none], [.inl x1, .inl (S 1600 0 j1)], (S, d))) rfl ?_
  refine zwp_br rfl (fun hb => ?_) (fun hb => ?_)
  · show zwp 83 (19, [some (.inr (some (16, 0))), some (.inl x1), none], [], (S, d)) Q
    replace h := h.1 (of_decide_eq_true hb)
    refine zwp_blk 1 (c' := (20, [some (.inr (some (16, 0))), some (.inl x1), none], [.inl x1], (S, d))) rfl ?_
    exact h
  · show zwp 83 (10, [some (.inr (some (16, 0))), some (.inl x1), none], [], (S, d)) Q
    replace h := h.2 (of_decide_eq_false hb)
    refine zwp_blk 3 (c' := (15, [some (.inr (some (16, 0))), some (.inl x1), none], [.inl x1, .inr (some (25, 0))], (S, d))) rfl ?_
    obtain ⟨j2, ej2, lj2, h⟩ := h
    refine zwp_ldx (n := 1300) (cd := 1600) (i := 0) (pc' := 16) (ls := [some (.inr (some (16, 0))), some (.inl x1), none]) (r := []) (t := (S, d)) rfl ej2 lj2 (by decide) ?_
    refine zwp_blk 1 (c' := (20, [some (.inr (some (16, 0))), some (.inl x1), none], [.inl (S 1600 0 j2)], (S, d))) rfl ?_
    exact h
theorem w83_20 {S : zS} {d : Nat} {Q : zO → zT → Prop} {x1 : Int32} {y0 : Int32} (h : (x1 ≤ (S 1026 0 0) → Q (.inl none) (S, d)) ∧ (¬ x1 ≤ (S 1026 0 0) → Q (.inl none) (zu S 1026 0 0 y0, d))) : zwp 83 (20, [some (.inr (some (16, 0))), some (.inl x1), none], [.inl y0], (S, d)) Q := by
  refine zwp_blk 4 (c' := (26, [some (.inr (some (16, 0))), some (.inl x1), some (.inl y0)], [.inl (S 1026 0 0), .inl x1], (S, d))) rfl ?_
  refine zwp_br rfl (fun hb => ?_) (fun hb => ?_)
  · show zwp 83 (34, [some (.inr (some (16, 0))), some (.inl x1), some (.inl y0)], [], (S, d)) Q
    replace h := h.1 (of_decide_eq_true hb)
    exact zwp_end rfl h
  · show zwp 83 (29, [some (.inr (some (16, 0))), some (.inl x1), some (.inl y0)], [], (S, d)) Q
    replace h := h.2 (of_decide_eq_false hb)
    refine zwp_blk 3 (c' := (34, [some (.inr (some (16, 0))), some (.inl x1), some (.inl y0)], [], (zu S 1026 0 0 y0, d))) rfl ?_
    exact zwp_end rfl h
-- 84 PageKeeperModel.write
theorem w84_0 {S : zS} {d : Nat} {Q : zO → zT → Prop} {x1 : Int32} (h : zwp 78 (0, zent 78 [.inr (some (16, 0)), .inl x1], [], (S, d)) (zaf 84 5 [some (.inr (some (16, 0))), some (.inl x1), none] [] Q)) : zwp 84 (0, [some (.inr (some (16, 0))), some (.inl x1), none], [], (S, d)) Q := by
  refine zwp_blk 2 (c' := (2, [some (.inr (some (16, 0))), some (.inl x1), none], [.inl x1, .inr (some (16, 0))], (S, d))) rfl ?_
  exact zwp_call rfl h
theorem w84_5 {S : zS} {d : Nat} {Q : zO → zT → Prop} {x1 : Int32} {y0 : Int32} (h : zwp 83 (0, zent 83 [.inr (some (16, 0)), .inl y0], [], (S, d)) (zaf 84 11 [some (.inr (some (16, 0))), some (.inl x1), some (.inl y0)] [] Q)) : zwp 84 (5, [some (.inr (some (16, 0))), some (.inl x1), none], [.inl y0], (S, d)) Q := by
  refine zwp_blk 3 (c' := (8, [some (.inr (some (16, 0))), some (.inl x1), some (.inl y0)], [.inl y0, .inr (some (16, 0))], (S, d))) rfl ?_
  exact zwp_call rfl h
theorem w84_11 {S : zS} {d : Nat} {Q : zO → zT → Prop} {x1 : Int32} {x2 : Int32} (h : ∃ j1 : Nat, x1 = nI j1 ∧ j1 < 48 ∧ (∃ j2 : Nat, x1 = nI j2 ∧ j2 < 48 ∧ (Q (.inl none) (zu (zu (zu S 1792 0 j1 x2) 1856 0 j2 (vp_nar .boolean (nI 0))) 1045 0 0 ((S 1045 0 0) + (nI 1)), d)))) : zwp 84 (11, [some (.inr (some (16, 0))), some (.inl x1), some (.inl x2)], [], (S, d)) Q := by
  refine zwp_blk 4 (c' := (17, [some (.inr (some (16, 0))), some (.inl x1), some (.inl x2)], [.inl x2, .inl x1, .inr (some (28, 0))], (S, d))) rfl ?_
  obtain ⟨j1, ej1, lj1, h⟩ := h
  refine zwp_stx (n := 48) (cd := 1792) (i := 0) (v := x2) (pc' := 18) (ls := [some (.inr (some (16, 0))), some (.inl x1), some (.inl x2)]) (r := []) (t := (S, d)) rfl ej1 lj1 (by decide) ?_
  refine zwp_blk 4 (c' := (24, [some (.inr (some (16, 0))), some (.inl x1), some (.inl x2)], [.inl (nI 0), .inl x1, .inr (some (29, 0))], (zu S 1792 0 j1 x2, d))) rfl ?_
  obtain ⟨j2, ej2, lj2, h⟩ := h
  refine zwp_stx (n := 48) (cd := 1856) (i := 0) (v := vp_nar .boolean (nI 0)) (pc' := 25) (ls := [some (.inr (some (16, 0))), some (.inl x1), some (.inl x2)]) (r := []) (t := (zu S 1792 0 j1 x2, d)) rfl ej2 lj2 (by decide) ?_
  refine zwp_blk 6 (c' := (35, [some (.inr (some (16, 0))), some (.inl x1), some (.inl x2)], [], (zu (zu (zu S 1792 0 j1 x2) 1856 0 j2 (vp_nar .boolean (nI 0))) 1045 0 0 ((S 1045 0 0) + (nI 1)), d))) rfl ?_
  exact zwp_end rfl h
-- 85 PageKeeperModel.room
theorem w85_0 {S : zS} {d : Nat} {Q : zO → zT → Prop}  (h : zwp 85 (6, [some (.inr (some (16, 0))), some (.inl (nI 0)), some (.inl (zint (-1))), some (.inl (nI 0))], [], (S, d)) Q) : zwp 85 (0, [some (.inr (some (16, 0))), none, none, none], [], (S, d)) Q := by
  refine zwp_blk 6 (c' := (6, [some (.inr (some (16, 0))), some (.inl (nI 0)), some (.inl (zint (-1))), some (.inl (nI 0))], [], (S, d))) rfl ?_
  exact h
theorem w85_6 {S : zS} {d : Nat} {Q : zO → zT → Prop} {x1 : Int32} {x2 : Int32} {x3 : Int32} (h : ((nI 48) ≤ x3 → ((nI 6) ≤ x1 → zwp 78 (0, zent 78 [.inr (some (16, 0)), .inl x2], [], (S, d)) (zaf 85 81 [some (.inr (some (16, 0))), some (.inl x1), some (.inl x2), some (.inl x3)] [] Q)) ∧ (¬ (nI 6) ≤ x1 → Q (.inl none) (S, d))) ∧ (¬ (nI 48) ≤ x3 → ∃ j1 : Nat, x3 = nI j1 ∧ j1 < 48 ∧ (((S 1728 0 j1) ≤ 0 → zwp 85 (27, [some (.inr (some (16, 0))), some (.inl x1), some (.inl x2), some (.inl x3)], [.inl (nI 0), .inl x1], (S, d)) Q) ∧ (¬ (S 1728 0 j1) ≤ 0 → zwp 85 (27, [some (.inr (some (16, 0))), some (.inl x1), some (.inl x2), some (.inl x3)], [.inl (nI 1), .inl x1], (S, d)) Q)))) : zwp 85 (6, [some (.inr (some (16, 0))), some (.inl x1), some (.inl x2), some (.inl x3)], [], (S, d)) Q := by
  refine zwp_blk 2 (c' := (9, [some (.inr (some (16, 0))), some (.inl x1), some (.inl x2), some (.inl x3)], [.inl (nI 48), .inl x3], (S, d))) rfl ?_
  refine zwp_br rfl (fun hb => ?_) (fun hb => ?_)
  · show zwp 85 (69, [some (.inr (some (16, 0))), some (.inl x1), some (.inl x2), some (.inl x3)], [], (S, d)) Q
    replace h := h.1 (of_decide_eq_true hb)
    refine zwp_blk 2 (c' := (72, [some (.inr (some (16, 0))), some (.inl x1), some (.inl x2), some (.inl x3)], [.inl (nI 6), .inl x1], (S, d))) rfl ?_
    refine zwp_br rfl (fun hb => ?_) (fun hb => ?_)
    · show zwp 85 (76, [some (.inr (some (16, 0))), some (.inl x1), some (.inl x2), some (.inl x3)], [], (S, d)) Q
      replace h := h.1 (of_decide_eq_true hb)
      refine zwp_blk 2 (c' := (78, [some (.inr (some (16, 0))), some (.inl x1), some (.inl x2), some (.inl x3)], [.inl x2, .inr (some (16, 0))], (S, d))) rfl ?_
      exact zwp_call rfl h
    · show zwp 85 (75, [some (.inr (some (16, 0))), some (.inl x1), some (.inl x2), some (.inl x3)], [], (S, d)) Q
      replace h := h.2 (of_decide_eq_false hb)
      exact zwp_end rfl h
  · show zwp 85 (12, [some (.inr (some (16, 0))), some (.inl x1), some (.inl x2), some (.inl x3)], [], (S, d)) Q
    replace h := h.2 (of_decide_eq_false hb)
    refine zwp_blk 4 (c' := (18, [some (.inr (some (16, 0))), some (.inl x1), some (.inl x2), some (.inl x3)], [.inl x3, .inr (some (27, 0)), .inl x1], (S, d))) rfl ?_
    obtain ⟨j1, ej1, lj1, h⟩ := h
    refine zwp_ldx (n := 48) (cd := 1728) (i := 0) (pc' := 19) (ls := [some (.inr (some (16, 0))), some (.inl x1), some (.inl x2), some (.inl x3)]) (r := [.inl x1]) (t := (S, d)) rfl ej1 lj1 (by decide) ?_
    refine zwp_br rfl (fun hb => ?_) (fun hb => ?_)
    · show zwp 85 (26, [some (.inr (some (16, 0))), some (.inl x1), some (.inl x2), some (.inl x3)], [.inl x1], (S, d)) Q
      replace h := h.1 (of_decide_eq_true hb)
      refine zwp_blk 1 (c' := (27, [some (.inr (some (16, 0))), some (.inl x1), some (.inl x2), some (.inl x3)], [.inl (nI 0), .inl x1], (S, d))) rfl ?_
      exact h
    · show zwp 85 (22, [some (.inr (some (16, 0))), some (.inl x1), some (.inl x2), some (.inl x3)], [.inl x1], (S, d)) Q
      replace h := h.2 (of_decide_eq_false hb)
      refine zwp_blk 2 (c' := (27, [some (.inr (some (16, 0))), some (.inl x1), some (.inl x2), some (.inl x3)], [.inl (nI 1), .inl x1], (S, d))) rfl ?_
      exact h
theorem w85_27 {S : zS} {d : Nat} {Q : zO → zT → Prop} {x1 : Int32} {x2 : Int32} {x3 : Int32} {y0 : Int32} {y1 : Int32} (h : ∃ j1 : Nat, x3 = nI j1 ∧ j1 < 48 ∧ (((S 1728 0 j1) ≤ 0 → zwp 85 (6, [some (.inr (some (16, 0))), some (.inl (y1 + y0)), some (.inl x2), some (.inl (x3 + nI 1))], [], (S, d)) Q) ∧ (¬ (S 1728 0 j1) ≤ 0 → (x2 < 0 → zwp 85 (6, [some (.inr (some (16, 0))), some (.inl (y1 + y0)), some (.inl x3), some (.inl (x3 + nI 1))], [], (S, d)) Q) ∧ (¬ x2 < 0 → ∃ j2 : Nat, x3 = nI j2 ∧ j2 < 48 ∧ (∃ j3 : Nat, x2 = nI j3 ∧ j3 < 48 ∧ (((S 1728 0 j3) ≤ (S 1728 0 j2) → zwp 85 (6, [some (.inr (some (16, 0))), some (.inl (y1 + y0)), some (.inl x2), some (.inl (x3 + nI 1))], [], (S, d)) Q) ∧ (¬ (S 1728 0 j3) ≤ (S 1728 0 j2) → zwp 85 (6, [some (.inr (some (16, 0))), some (.inl (y1 + y0)), some (.inl x3), some (.inl (x3 + nI 1))], [], (S, d)) Q))))))) : zwp 85 (27, [some (.inr (some (16, 0))), some (.inl x1), some (.inl x2), some (.inl x3)], [.inl y0, .inl y1], (S, d)) Q := by
  refine zwp_blk 5 (c' := (34, [some (.inr (some (16, 0))), some (.inl (y1 + y0)), some (.inl x2), some (.inl x3)], [.inl x3, .inr (some (27, 0))], (S, d))) rfl ?_
  obtain ⟨j1, ej1, lj1, h⟩ := h
  refine zwp_ldx (n := 48) (cd := 1728) (i := 0) (pc' := 35) (ls := [some (.inr (some (16, 0))), some (.inl (y1 + y0)), some (.inl x2), some (.inl x3)]) (r := []) (t := (S, d)) rfl ej1 lj1 (by decide) ?_
  refine zwp_br rfl (fun hb => ?_) (fun hb => ?_)
  · show zwp 85 (61, [some (.inr (some (16, 0))), some (.inl (y1 + y0)), some (.inl x2), some (.inl x3)], [], (S, d)) Q
    replace h := h.1 (of_decide_eq_true hb)
    refine zwp_blk 4 (c' := (6, [some (.inr (some (16, 0))), some (.inl (y1 + y0)), some (.inl x2), some (.inl (x3 + nI 1))], [], (S, d))) rfl ?_
    exact h
  · show zwp 85 (38, [some (.inr (some (16, 0))), some (.inl (y1 + y0)), some (.inl x2), some (.inl x3)], [], (S, d)) Q
    replace h := h.2 (of_decide_eq_false hb)
    refine zwp_blk 1 (c' := (39, [some (.inr (some (16, 0))), some (.inl (y1 + y0)), some (.inl x2), some (.inl x3)], [.inl x2], (S, d))) rfl ?_
    refine zwp_br rfl (fun hb => ?_) (fun hb => ?_)
    · show zwp 85 (57, [some (.inr (some (16, 0))), some (.inl (y1 + y0)), some (.inl x2), some (.inl x3)], [], (S, d)) Q
      replace h := h.1 (of_decide_eq_true hb)
      refine zwp_blk 5 (c' := (6, [some (.inr (some (16, 0))), some (.inl (y1 + y0)), some (.inl x3), some (.inl (x3 + nI 1))], [], (S, d))) rfl ?_
      exact h
    · show zwp 85 (42, [some (.inr (some (16, 0))), some (.inl (y1 + y0)), some (.inl x2), some (.inl x3)], [], (S, d)) Q
      replace h := h.2 (of_decide_eq_false hb)
      refine zwp_blk 3 (c' := (47, [some (.inr (some (16, 0))), some (.inl (y1 + y0)), some (.inl x2), some (.inl x3)], [.inl x3, .inr (some (27, 0))], (S, d))) rfl ?_
      obtain ⟨j2, ej2, lj2, h⟩ := h
      refine zwp_ldx (n := 48) (cd := 1728) (i := 0) (pc' := 48) (ls := [some (.inr (some (16, 0))), some (.inl (y1 + y0)), some (.inl x2), some (.inl x3)]) (r := []) (t := (S, d)) rfl ej2 lj2 (by decide) ?_
      refine zwp_blk 3 (c' := (53, [some (.inr (some (16, 0))), some (.inl (y1 + y0)), some (.inl x2), some (.inl x3)], [.inl x2, .inr (some (27, 0)), .inl (S 1728 0 j2)], (S, d))) rfl ?_
      obtain ⟨j3, ej3, lj3, h⟩ := h
      refine zwp_ldx (n := 48) (cd := 1728) (i := 0) (pc' := 54) (ls := [some (.inr (some (16, 0))), some (.inl (y1 + y0)), some (.inl x2), some (.inl x3)]) (r := [.inl (S 1728 0 j2)]) (t := (S, d)) rfl ej3 lj3 (by decide) ?_
      refine zwp_br rfl (fun hb => ?_) (fun hb => ?_)
      · show zwp 85 (61, [some (.inr (some (16, 0))), some (.inl (y1 + y0)), some (.inl x2), some (.inl x3)], [], (S, d)) Q
        replace h := h.1 (of_decide_eq_true hb)
        refine zwp_blk 4 (c' := (6, [some (.inr (some (16, 0))), some (.inl (y1 + y0)), some (.inl x2), some (.inl (x3 + nI 1))], [], (S, d))) rfl ?_
        exact h
      · show zwp 85 (57, [some (.inr (some (16, 0))), some (.inl (y1 + y0)), some (.inl x2), some (.inl x3)], [], (S, d)) Q
        replace h := h.2 (of_decide_eq_false hb)
        refine zwp_blk 5 (c' := (6, [some (.inr (some (16, 0))), some (.inl (y1 + y0)), some (.inl x3), some (.inl (x3 + nI 1))], [], (S, d))) rfl ?_
        exact h
theorem w85_81 {S : zS} {d : Nat} {Q : zO → zT → Prop} {x1 : Int32} {x2 : Int32} {x3 : Int32} {y0 : Int32} (h : ∃ j1 : Nat, x2 = nI j1 ∧ j1 < 48 ∧ ((y0 ≤ (S 1792 0 j1) → zwp 85 (95, [some (.inr (some (16, 0))), some (.inl x1), some (.inl x2), some (.inl x3)], [], (S, d)) Q) ∧ (¬ y0 ≤ (S 1792 0 j1) → zwp 84 (0, zent 84 [.inr (some (16, 0)), .inl x2], [], (S, d)) (zaf 85 95 [some (.inr (some (16, 0))), some (.inl x1), some (.inl x2), some (.inl x3)] [] Q)))) : zwp 85 (81, [some (.inr (some (16, 0))), some (.inl x1), some (.inl x2), some (.inl x3)], [.inl y0], (S, d)) Q := by
  refine zwp_blk 3 (c' := (86, [some (.inr (some (16, 0))), some (.inl x1), some (.inl x2), some (.inl x3)], [.inl x2, .inr (some (28, 0)), .inl y0], (S, d))) rfl ?_
  obtain ⟨j1, ej1, lj1, h⟩ := h
  refine zwp_ldx (n := 48) (cd := 1792) (i := 0) (pc' := 87) (ls := [some (.inr (some (16, 0))), some (.inl x1), some (.inl x2), some (.inl x3)]) (r := [.inl y0]) (t := (S, d)) rfl ej1 lj1 (by decide) ?_
  refine zwp_br rfl (fun hb => ?_) (fun hb => ?_)
  · show zwp 85 (95, [some (.inr (some (16, 0))), some (.inl x1), some (.inl x2), some (.inl x3)], [], (S, d)) Q
    replace h := h.1 (of_decide_eq_true hb)
    exact h
  · show zwp 85 (90, [some (.inr (some (16, 0))), some (.inl x1), some (.inl x2), some (.inl x3)], [], (S, d)) Q
    replace h := h.2 (of_decide_eq_false hb)
    refine zwp_blk 2 (c' := (92, [some (.inr (some (16, 0))), some (.inl x1), some (.inl x2), some (.inl x3)], [.inl x2, .inr (some (16, 0))], (S, d))) rfl ?_
    exact zwp_call rfl h
theorem w85_95 {S : zS} {d : Nat} {Q : zO → zT → Prop} {x1 : Int32} {x2 : Int32} {x3 : Int32} (h : ∃ j1 : Nat, x2 = nI j1 ∧ j1 < 48 ∧ (Q (.inl none) (zu S 1728 0 j1 ((nI 0)), d))) : zwp 85 (95, [some (.inr (some (16, 0))), some (.inl x1), some (.inl x2), some (.inl x3)], [], (S, d)) Q := by
  refine zwp_blk 4 (c' := (101, [some (.inr (some (16, 0))), some (.inl x1), some (.inl x2), some (.inl x3)], [.inl (nI 0), .inl x2, .inr (some (27, 0))], (S, d))) rfl ?_
  obtain ⟨j1, ej1, lj1, h⟩ := h
  refine zwp_stx (n := 48) (cd := 1728) (i := 0) (v := (nI 0)) (pc' := 102) (ls := [some (.inr (some (16, 0))), some (.inl x1), some (.inl x2), some (.inl x3)]) (r := []) (t := (S, d)) rfl ej1 lj1 (by decide) ?_
  exact zwp_end rfl h
-- 86 PageKeeperModel.fix
theorem w86_0 {S : zS} {d : Nat} {Q : zO → zT → Prop} {x1 : Int32} (h : ∃ j1 : Nat, x1 = nI j1 ∧ j1 < 48 ∧ (((S 1728 0 j1) = 0 → zwp 85 (0, zent 85 [.inr (some (16, 0))], [], (S, d)) (zaf 86 13 [some (.inr (some (16, 0))), some (.inl x1), none, none] [] Q)) ∧ (¬ (S 1728 0 j1) = 0 → zwp 86 (137, [some (.inr (some (16, 0))), some (.inl x1), none, none], [], (S, d)) Q))) : zwp 86 (0, [some (.inr (some (16, 0))), some (.inl x1), none, none], [], (S, d)) Q := by
  refine zwp_blk 3 (c' := (5, [some (.inr (some (16, 0))), some (.inl x1), none, none], [.inl x1, .inr (some (27, 0))], (S, d))) rfl ?_
  obtain ⟨j1, ej1, lj1, h⟩ := h
  refine zwp_ldx (n := 48) (cd := 1728) (i := 0) (pc' := 6) (ls := [some (.inr (some (16, 0))), some (.inl x1), none, none]) (r := []) (t := (S, d)) rfl ej1 lj1 (by decide) ?_
  refine zwp_br rfl (fun hb => ?_) (fun hb => ?_)
  · show zwp 86 (137, [some (.inr (some (16, 0))), some (.inl x1), none, none], [], (S, d)) Q
    replace h := h.2 (zne_t hb)
    exact h
  · show zwp 86 (9, [some (.inr (some (16, 0))), some (.inl x1), none, none], [], (S, d)) Q
    replace h := h.1 (zne_f hb)
    refine zwp_blk 1 (c' := (10, [some (.inr (some (16, 0))), some (.inl x1), none, none], [.inr (some (16, 0))], (S, d))) rfl ?_
    exact zwp_call rfl h
theorem w86_13 {S : zS} {d : Nat} {Q : zO → zT → Prop} {x1 : Int32} (h : ∃ j1 : Nat, x1 = nI j1 ∧ j1 < 48 ∧ (((S 1856 0 j1) = 0 → ∃ j2 : Nat, x1 = nI j2 ∧ j2 < 48 ∧ (zwp 86 (60, [some (.inr (some (16, 0))), some (.inl x1), none, none], [.inl (S 1792 0 j2)], (zu S 1044 0 0 ((S 1044 0 0) + (nI 1)), d)) Q)) ∧ (¬ (S 1856 0 j1) = 0 → ∃ j3 : Nat, x1 = nI j3 ∧ j3 < 48 ∧ ((0 ≤ (S 1920 0 j3) → ∃ j4 : Nat, x1 = nI j4 ∧ j4 < 48 ∧ (zwp 86 (60, [some (.inr (some (16, 0))), some (.inl x1), none, none], [.inl (S 1920 0 j4)], (zu S 1044 0 0 ((S 1044 0 0) + (nI 1)), d)) Q)) ∧ (¬ 0 ≤ (S 1920 0 j3) → zwp 86 (60, [some (.inr (some (16, 0))), some (.inl x1), none, none], [.inl (nI 0)], (zu S 1044 0 0 ((S 1044 0 0) + (nI 1)), d)) Q))))) : zwp 86 (13, [some (.inr (some (16, 0))), some (.inl x1), none, none], [], (S, d)) Q := by
  refine zwp_blk 9 (c' := (28, [some (.inr (some (16, 0))), some (.inl x1), none, none], [.inl x1, .inr (some (29, 0))], (zu S 1044 0 0 ((S 1044 0 0) + (nI 1)), d))) rfl ?_
  obtain ⟨j1, ej1, lj1, h⟩ := h
  refine zwp_ldx (n := 48) (cd := 1856) (i := 0) (pc' := 29) (ls := [some (.inr (some (16, 0))), some (.inl x1), none, none]) (r := []) (t := (zu S 1044 0 0 ((S 1044 0 0) + (nI 1)), d)) rfl ej1 lj1 (by decide) ?_
  refine zwp_br rfl (fun hb => ?_) (fun hb => ?_)
  · show zwp 86 (54, [some (.inr (some (16, 0))), some (.inl x1), none, none], [], (zu S 1044 0 0 ((S 1044 0 0) + (nI 1)), d)) Q
    replace h := h.1 (of_decide_eq_true hb)
    refine zwp_blk 3 (c' := (59, [some (.inr (some (16, 0))), some (.inl x1), none, none], [.inl x1, .inr (some (28, 0))], (zu S 1044 0 0 ((S 1044 0 0) + (nI 1)), d))) rfl ?_
    obtain ⟨j2, ej2, lj2, h⟩ := h
    refine zwp_ldx (n := 48) (cd := 1792) (i := 0) (pc' := 60) (ls := [some (.inr (some (16, 0))), some (.inl x1), none, none]) (r := []) (t := (zu S 1044 0 0 ((S 1044 0 0) + (nI 1)), d)) rfl ej2 lj2 (by decide) ?_
    exact h
  · show zwp 86 (32, [some (.inr (some (16, 0))), some (.inl x1), none, none], [], (zu S 1044 0 0 ((S 1044 0 0) + (nI 1)), d)) Q
    replace h := h.2 (of_decide_eq_false hb)
    refine zwp_blk 3 (c' := (37, [some (.inr (some (16, 0))), some (.inl x1), none, none], [.inl x1, .inr (some (30, 0))], (zu S 1044 0 0 ((S 1044 0 0) + (nI 1)), d))) rfl ?_
    obtain ⟨j3, ej3, lj3, h⟩ := h
    refine zwp_ldx (n := 48) (cd := 1920) (i := 0) (pc' := 38) (ls := [some (.inr (some (16, 0))), some (.inl x1), none, none]) (r := []) (t := (zu S 1044 0 0 ((S 1044 0 0) + (nI 1)), d)) rfl ej3 lj3 (by decide) ?_
    refine zwp_br rfl (fun hb => ?_) (fun hb => ?_)
    · show zwp 86 (45, [some (.inr (some (16, 0))), some (.inl x1), none, none], [], (zu S 1044 0 0 ((S 1044 0 0) + (nI 1)), d)) Q
      replace h := h.1 (of_decide_eq_true hb)
      refine zwp_blk 3 (c' := (50, [some (.inr (some (16, 0))), some (.inl x1), none, none], [.inl x1, .inr (some (30, 0))], (zu S 1044 0 0 ((S 1044 0 0) + (nI 1)), d))) rfl ?_
      obtain ⟨j4, ej4, lj4, h⟩ := h
      refine zwp_ldx (n := 48) (cd := 1920) (i := 0) (pc' := 51) (ls := [some (.inr (some (16, 0))), some (.inl x1), none, none]) (r := []) (t := (zu S 1044 0 0 ((S 1044 0 0) + (nI 1)), d)) rfl ej4 lj4 (by decide) ?_
      refine zwp_blk 1 (c' := (60, [some (.inr (some (16, 0))), some (.inl x1), none, none], [.inl (S 1920 0 j4)], (zu S 1044 0 0 ((S 1044 0 0) + (nI 1)), d))) rfl ?_
      exact h
    · show zwp 86 (41, [some (.inr (some (16, 0))), some (.inl x1), none, none], [], (zu S 1044 0 0 ((S 1044 0 0) + (nI 1)), d)) Q
      replace h := h.2 (of_decide_eq_false hb)
      refine zwp_blk 2 (c' := (60, [some (.inr (some (16, 0))), some (.inl x1), none, none], [.inl (nI 0)], (zu S 1044 0 0 ((S 1044 0 0) + (nI 1)), d))) rfl ?_
      exact h
theorem w86_60 {S : zS} {d : Nat} {Q : zO → zT → Prop} {x1 : Int32} {y0 : Int32} (h : ∃ j1 : Nat, x1 = nI j1 ∧ j1 < 48 ∧ (((S 1856 0 j1) = 0 → zwp 86 (88, [some (.inr (some (16, 0))), some (.inl x1), some (.inl y0), some (.inl (y0 + (nI 1)))], [], (zu S 1047 0 0 ((S 1047 0 0) + (nI 0)), d)) Q) ∧ (¬ (S 1856 0 j1) = 0 → zwp 86 (88, [some (.inr (some (16, 0))), some (.inl x1), some (.inl y0), some (.inl (y0 + (nI 1)))], [], (zu S 1047 0 0 ((S 1047 0 0) + (nI 1)), d)) Q))) : zwp 86 (60, [some (.inr (some (16, 0))), some (.inl x1), none, none], [.inl y0], (S, d)) Q := by
  refine zwp_blk 7 (c' := (71, [some (.inr (some (16, 0))), some (.inl x1), some (.inl y0), none], [.inl x1, .inr (some (29, 0)), .inl (S 1047 0 0), .inr (some (16, 0))], (S, d))) rfl ?_
  obtain ⟨j1, ej1, lj1, h⟩ := h
  refine zwp_ldx (n := 48) (cd := 1856) (i := 0) (pc' := 72) (ls := [some (.inr (some (16, 0))), some (.inl x1), some (.inl y0), none]) (r := [.inl (S 1047 0 0), .inr (some (16, 0))]) (t := (S, d)) rfl ej1 lj1 (by decide) ?_
  refine zwp_br rfl (fun hb => ?_) (fun hb => ?_)
  · show zwp 86 (79, [some (.inr (some (16, 0))), some (.inl x1), some (.inl y0), none], [.inl (S 1047 0 0), .inr (some (16, 0))], (S, d)) Q
    replace h := h.1 (of_decide_eq_true hb)
    refine zwp_blk 7 (c' := (88, [some (.inr (some (16, 0))), some (.inl x1), some (.inl y0), some (.inl (y0 + (nI 1)))], [], (zu S 1047 0 0 ((S 1047 0 0) + (nI 0)), d))) rfl ?_
    exact h
  · show zwp 86 (75, [some (.inr (some (16, 0))), some (.inl x1), some (.inl y0), none], [.inl (S 1047 0 0), .inr (some (16, 0))], (S, d)) Q
    replace h := h.2 (of_decide_eq_false hb)
    refine zwp_blk 8 (c' := (88, [some (.inr (some (16, 0))), some (.inl x1), some (.inl y0), some (.inl (y0 + (nI 1)))], [], (zu S 1047 0 0 ((S 1047 0 0) + (nI 1)), d))) rfl ?_
    exact h
theorem w86_88 {S : zS} {d : Nat} {Q : zO → zT → Prop} {x1 : Int32} {x2 : Int32} {x3 : Int32} (h : ((S 1025 0 0) < x3 → zwp 86 (137, [some (.inr (some (16, 0))), some (.inl x1), some (.inl x2), some (.inl x3)], [], (S, d)) Q) ∧ (¬ (S 1025 0 0) < x3 → ∃ j1 : Nat, x3 = nI j1 ∧ j1 < 1300 ∧ (((nI 6) ≤ (S 1088 0 j1) → zwp 86 (88, [some (.inr (some (16, 0))), some (.inl x1), some (.inl x2), some (.inl (x3 + nI 1))], [], (zu S 1046 0 0 ((S 1046 0 0) + (nI 0)), d)) Q) ∧ (¬ (nI 6) ≤ (S 1088 0 j1) → ∃ j2 : Nat, x3 = nI j2 ∧ j2 < 1300 ∧ (((S 1152 0 j2) = x1 → zwp 86 (88, [some (.inr (some (16, 0))), some (.inl x1), some (.inl x2), some (.inl (x3 + nI 1))], [], (zu S 1046 0 0 ((S 1046 0 0) + (nI 1)), d)) Q) ∧ (¬ (S 1152 0 j2) = x1 → zwp 86 (88, [some (.inr (some (16, 0))), some (.inl x1), some (.inl x2), some (.inl (x3 + nI 1))], [], (zu S 1046 0 0 ((S 1046 0 0) + (nI 0)), d)) Q)))))) : zwp 86 (88, [some (.inr (some (16, 0))), some (.inl x1), some (.inl x2), some (.inl x3)], [], (S, d)) Q := by
  refine zwp_blk 3 (c' := (93, [some (.inr (some (16, 0))), some (.inl x1), some (.inl x2), some (.inl x3)], [.inl (S 1025 0 0), .inl x3], (S, d))) rfl ?_
  refine zwp_br rfl (fun hb => ?_) (fun hb => ?_)
  · show zwp 86 (137, [some (.inr (some (16, 0))), some (.inl x1), some (.inl x2), some (.inl x3)], [], (S, d)) Q
    replace h := h.1 (of_decide_eq_true hb)
    exact h
  · show zwp 86 (96, [some (.inr (some (16, 0))), some (.inl x1), some (.inl x2), some (.inl x3)], [], (S, d)) Q
    replace h := h.2 (of_decide_eq_false hb)
    refine zwp_blk 6 (c' := (106, [some (.inr (some (16, 0))), some (.inl x1), some (.inl x2), some (.inl x3)], [.inl x3, .inr (some (17, 0)), .inl (S 1046 0 0), .inr (some (16, 0))], (S, d))) rfl ?_
    obtain ⟨j1, ej1, lj1, h⟩ := h
    refine zwp_ldx (n := 1300) (cd := 1088) (i := 0) (pc' := 107) (ls := [some (.inr (some (16, 0))), some (.inl x1), some (.inl x2), some (.inl x3)]) (r := [.inl (S 1046 0 0), .inr (some (16, 0))]) (t := (S, d)) rfl ej1 lj1 (by decide) ?_
    refine zwp_blk 1 (c' := (109, [some (.inr (some (16, 0))), some (.inl x1), some (.inl x2), some (.inl x3)], [.inl (nI 6), .inl (S 1088 0 j1), .inl (S 1046 0 0), .inr (some (16, 0))], (S, d))) rfl ?_
    refine zwp_br rfl (fun hb => ?_) (fun hb => ?_)
    · show zwp 86 (126, [some (.inr (some (16, 0))), some (.inl x1), some (.inl x2), some (.inl x3)], [.inl (S 1046 0 0), .inr (some (16, 0))], (S, d)) Q
      replace h := h.1 (of_decide_eq_true hb)
      refine zwp_blk 5 (c' := (88, [some (.inr (some (16, 0))), some (.inl x1), some (.inl x2), some (.inl (x3 + nI 1))], [], (zu S 1046 0 0 ((S 1046 0 0) + (nI 0)), d))) rfl ?_
      exact h
    · show zwp 86 (112, [some (.inr (some (16, 0))), some (.inl x1), some (.inl x2), some (.inl x3)], [.inl (S 1046 0 0), .inr (some (16, 0))], (S, d)) Q
      replace h := h.2 (of_decide_eq_false hb)
      refine zwp_blk 3 (c' := (117, [some (.inr (some (16, 0))), some (.inl x1), some (.inl x2), some (.inl x3)], [.inl x3, .inr (some (18, 0)), .inl (S 1046 0 0), .inr (some (16, 0))], (S, d))) rfl ?_
      obtain ⟨j2, ej2, lj2, h⟩ := h
      refine zwp_ldx (n := 1300) (cd := 1152) (i := 0) (pc' := 118) (ls := [some (.inr (some (16, 0))), some (.inl x1), some (.inl x2), some (.inl x3)]) (r := [.inl (S 1046 0 0), .inr (some (16, 0))]) (t := (S, d)) rfl ej2 lj2 (by decide) ?_
      refine zwp_blk 1 (c' := (119, [some (.inr (some (16, 0))), some (.inl x1), some (.inl x2), some (.inl x3)], [.inl x1, .inl (S 1152 0 j2), .inl (S 1046 0 0), .inr (some (16, 0))], (S, d))) rfl ?_
      refine zwp_br rfl (fun hb => ?_) (fun hb => ?_)
      · show zwp 86 (126, [some (.inr (some (16, 0))), some (.inl x1), some (.inl x2), some (.inl x3)], [.inl (S 1046 0 0), .inr (some (16, 0))], (S, d)) Q
        replace h := h.2 (zne_t hb)
        refine zwp_blk 5 (c' := (88, [some (.inr (some (16, 0))), some (.inl x1), some (.inl x2), some (.inl (x3 + nI 1))], [], (zu S 1046 0 0 ((S 1046 0 0) + (nI 0)), d))) rfl ?_
        exact h
      · show zwp 86 (122, [some (.inr (some (16, 0))), some (.inl x1), some (.inl x2), some (.inl x3)], [.inl (S 1046 0 0), .inr (some (16, 0))], (S, d)) Q
        replace h := h.1 (zne_f hb)
        refine zwp_blk 6 (c' := (88, [some (.inr (some (16, 0))), some (.inl x1), some (.inl x2), some (.inl (x3 + nI 1))], [], (zu S 1046 0 0 ((S 1046 0 0) + (nI 1)), d))) rfl ?_
        exact h
theorem w86_137 {S : zS} {d : Nat} {Q : zO → zT → Prop} {x1 : Int32} {x2 : Option zV} {x3 : Option zV} (h : ∃ j1 : Nat, x1 = nI j1 ∧ j1 < 48 ∧ (Q (.inl none) (zu (zu S 1043 0 0 ((S 1043 0 0) + (nI 1))) 1728 0 j1 (((S 1043 0 0) + (nI 1))), d))) : zwp 86 (137, [some (.inr (some (16, 0))), some (.inl x1), x2, x3], [], (S, d)) Q := by
  refine zwp_blk 11 (c' := (156, [some (.inr (some (16, 0))), some (.inl x1), x2, x3], [.inl ((S 1043 0 0) + (nI 1)), .inl x1, .inr (some (27, 0))], (zu S 1043 0 0 ((S 1043 0 0) + (nI 1)), d))) rfl ?_
  obtain ⟨j1, ej1, lj1, h⟩ := h
  refine zwp_stx (n := 48) (cd := 1728) (i := 0) (v := ((S 1043 0 0) + (nI 1))) (pc' := 157) (ls := [some (.inr (some (16, 0))), some (.inl x1), x2, x3]) (r := []) (t := (zu S 1043 0 0 ((S 1043 0 0) + (nI 1)), d)) rfl ej1 lj1 (by decide) ?_
  exact zwp_end rfl h
-- 87 PageKeeperModel.newPage
theorem w87_0 {S : zS} {d : Nat} {Q : zO → zT → Prop}  (h : zwp 85 (0, zent 85 [.inr (some (16, 0))], [], (S, d)) (zaf 87 4 [some (.inr (some (16, 0)))] [] Q)) : zwp 87 (0, [some (.inr (some (16, 0)))], [], (S, d)) Q := by
  refine zwp_blk 1 (c' := (1, [some (.inr (some (16, 0)))], [.inr (some (16, 0))], (S, d))) rfl ?_
  exact zwp_call rfl h
theorem w87_4 {S : zS} {d : Nat} {Q : zO → zT → Prop}  (h : ∃ j1 : Nat, S 1038 0 0 = nI j1 ∧ j1 < 48 ∧ (∃ j2 : Nat, S 1038 0 0 = nI j2 ∧ j2 < 48 ∧ (∃ j3 : Nat, S 1038 0 0 = nI j3 ∧ j3 < 48 ∧ (Q (.inl (some (.inl (((S 1038 0 0) + (nI 1)) - (nI 1))))) (zu (zu (zu (zu (zu S 1043 0 0 ((S 1043 0 0) + (nI 1))) 1728 0 j1 (((S 1043 0 0) + (nI 1)))) 1792 0 j2 ((nI 0))) 1856 0 j3 (vp_nar .boolean (nI 0))) 1038 0 0 ((S 1038 0 0) + (nI 1)), d))))) : zwp 87 (4, [some (.inr (some (16, 0)))], [], (S, d)) Q := by
  refine zwp_blk 12 (c' := (26, [some (.inr (some (16, 0)))], [.inl ((S 1043 0 0) + (nI 1)), .inl (S 1038 0 0), .inr (some (27, 0))], (zu S 1043 0 0 ((S 1043 0 0) + (nI 1)), d))) rfl ?_
  obtain ⟨j1, ej1, lj1, h⟩ := h
  refine zwp_stx (n := 48) (cd := 1728) (i := 0) (v := ((S 1043 0 0) + (nI 1))) (pc' := 27) (ls := [some (.inr (some (16, 0)))]) (r := []) (t := (zu S 1043 0 0 ((S 1043 0 0) + (nI 1)), d)) rfl ej1 lj1 (by decide) ?_
  refine zwp_blk 5 (c' := (36, [some (.inr (some (16, 0)))], [.inl (nI 0), .inl (S 1038 0 0), .inr (some (28, 0))], (zu (zu S 1043 0 0 ((S 1043 0 0) + (nI 1))) 1728 0 j1 (((S 1043 0 0) + (nI 1))), d))) rfl ?_
  obtain ⟨j2, ej2, lj2, h⟩ := h
  refine zwp_stx (n := 48) (cd := 1792) (i := 0) (v := (nI 0)) (pc' := 37) (ls := [some (.inr (some (16, 0)))]) (r := []) (t := (zu (zu S 1043 0 0 ((S 1043 0 0) + (nI 1))) 1728 0 j1 (((S 1043 0 0) + (nI 1))), d)) rfl ej2 lj2 (by decide) ?_
  refine zwp_blk 5 (c' := (46, [some (.inr (some (16, 0)))], [.inl (nI 0), .inl (S 1038 0 0), .inr (some (29, 0))], (zu (zu (zu S 1043 0 0 ((S 1043 0 0) + (nI 1))) 1728 0 j1 (((S 1043 0 0) + (nI 1)))) 1792 0 j2 ((nI 0)), d))) rfl ?_
  obtain ⟨j3, ej3, lj3, h⟩ := h
  refine zwp_stx (n := 48) (cd := 1856) (i := 0) (v := vp_nar .boolean (nI 0)) (pc' := 47) (ls := [some (.inr (some (16, 0)))]) (r := []) (t := (zu (zu (zu S 1043 0 0 ((S 1043 0 0) + (nI 1))) 1728 0 j1 (((S 1043 0 0) + (nI 1)))) 1792 0 j2 ((nI 0)), d)) rfl ej3 lj3 (by decide) ?_
  refine zwp_blk 10 (c' := (63, [some (.inr (some (16, 0)))], [.inl (((S 1038 0 0) + (nI 1)) - (nI 1))], (zu (zu (zu (zu (zu S 1043 0 0 ((S 1043 0 0) + (nI 1))) 1728 0 j1 (((S 1043 0 0) + (nI 1)))) 1792 0 j2 ((nI 0))) 1856 0 j3 (vp_nar .boolean (nI 0))) 1038 0 0 ((S 1038 0 0) + (nI 1)), d))) rfl ?_
  exact zwp_end rfl h
-- 88 PageKeeperModel.append
theorem w88_0 {S : zS} {d : Nat} {Q : zO → zT → Prop} {x1 : Int32} {x2 : Int32} (h : ∃ j1 : Nat, (S 1025 0 0) + (nI 1) = nI j1 ∧ j1 < 1300 ∧ (∃ j2 : Nat, (S 1025 0 0) + (nI 1) = nI j2 ∧ j2 < 1300 ∧ (∃ j3 : Nat, (S 1025 0 0) + (nI 1) = nI j3 ∧ j3 < 1300 ∧ (∃ j4 : Nat, (S 1025 0 0) + (nI 1) = nI j4 ∧ j4 < 1300 ∧ (∃ j5 : Nat, (S 1025 0 0) + (nI 1) = nI j5 ∧ j5 < 1300 ∧ (Q (.inl (some (.inl ((S 1025 0 0) + (nI 1))))) (zu (zu (zu (zu (zu (zu S 1025 0 0 ((S 1025 0 0) + (nI 1))) 1088 0 j1 (vp_nar .byte x1.toInt8.toInt32)) 1152 0 j2 (vp_nar .byte x2.toInt8.toInt32)) 1216 0 j3 (vp_nar .short (nI 0))) 1536 0 j4 (vp_nar .short (nI 0))) 1600 0 j5 (vp_nar .short (nI 0)), d))))))) : zwp 88 (0, [some (.inr (some (16, 0))), some (.inl x1), some (.inl x2)], [], (S, d)) Q := by
  refine zwp_blk 12 (c' := (20, [some (.inr (some (16, 0))), some (.inl x1), some (.inl x2)], [.inl x1.toInt8.toInt32, .inl ((S 1025 0 0) + (nI 1)), .inr (some (17, 0))], (zu S 1025 0 0 ((S 1025 0 0) + (nI 1)), d))) rfl ?_
  obtain ⟨j1, ej1, lj1, h⟩ := h
  refine zwp_stx (n := 1300) (cd := 1088) (i := 0) (v := vp_nar .byte x1.toInt8.toInt32) (pc' := 21) (ls := [some (.inr (some (16, 0))), some (.inl x1), some (.inl x2)]) (r := []) (t := (zu S 1025 0 0 ((S 1025 0 0) + (nI 1)), d)) rfl ej1 lj1 (by decide) ?_
  refine zwp_blk 6 (c' := (31, [some (.inr (some (16, 0))), some (.inl x1), some (.inl x2)], [.inl x2.toInt8.toInt32, .inl ((S 1025 0 0) + (nI 1)), .inr (some (18, 0))], (zu (zu S 1025 0 0 ((S 1025 0 0) + (nI 1))) 1088 0 j1 (vp_nar .byte x1.toInt8.toInt32), d))) rfl ?_
  obtain ⟨j2, ej2, lj2, h⟩ := h
  refine zwp_stx (n := 1300) (cd := 1152) (i := 0) (v := vp_nar .byte x2.toInt8.toInt32) (pc' := 32) (ls := [some (.inr (some (16, 0))), some (.inl x1), some (.inl x2)]) (r := []) (t := (zu (zu S 1025 0 0 ((S 1025 0 0) + (nI 1))) 1088 0 j1 (vp_nar .byte x1.toInt8.toInt32), d)) rfl ej2 lj2 (by decide) ?_
  refine zwp_blk 5 (c' := (41, [some (.inr (some (16, 0))), some (.inl x1), some (.inl x2)], [.inl (nI 0), .inl ((S 1025 0 0) + (nI 1)), .inr (some (19, 0))], (zu (zu (zu S 1025 0 0 ((S 1025 0 0) + (nI 1))) 1088 0 j1 (vp_nar .byte x1.toInt8.toInt32)) 1152 0 j2 (vp_nar .byte x2.toInt8.toInt32), d))) rfl ?_
  obtain ⟨j3, ej3, lj3, h⟩ := h
  refine zwp_stx (n := 1300) (cd := 1216) (i := 0) (v := vp_nar .short (nI 0)) (pc' := 42) (ls := [some (.inr (some (16, 0))), some (.inl x1), some (.inl x2)]) (r := []) (t := (zu (zu (zu S 1025 0 0 ((S 1025 0 0) + (nI 1))) 1088 0 j1 (vp_nar .byte x1.toInt8.toInt32)) 1152 0 j2 (vp_nar .byte x2.toInt8.toInt32), d)) rfl ej3 lj3 (by decide) ?_
  refine zwp_blk 5 (c' := (51, [some (.inr (some (16, 0))), some (.inl x1), some (.inl x2)], [.inl (nI 0), .inl ((S 1025 0 0) + (nI 1)), .inr (some (24, 0))], (zu (zu (zu (zu S 1025 0 0 ((S 1025 0 0) + (nI 1))) 1088 0 j1 (vp_nar .byte x1.toInt8.toInt32)) 1152 0 j2 (vp_nar .byte x2.toInt8.toInt32)) 1216 0 j3 (vp_nar .short (nI 0)), d))) rfl ?_
  obtain ⟨j4, ej4, lj4, h⟩ := h
  refine zwp_stx (n := 1300) (cd := 1536) (i := 0) (v := vp_nar .short (nI 0)) (pc' := 52) (ls := [some (.inr (some (16, 0))), some (.inl x1), some (.inl x2)]) (r := []) (t := (zu (zu (zu (zu S 1025 0 0 ((S 1025 0 0) + (nI 1))) 1088 0 j1 (vp_nar .byte x1.toInt8.toInt32)) 1152 0 j2 (vp_nar .byte x2.toInt8.toInt32)) 1216 0 j3 (vp_nar .short (nI 0)), d)) rfl ej4 lj4 (by decide) ?_
  refine zwp_blk 5 (c' := (61, [some (.inr (some (16, 0))), some (.inl x1), some (.inl x2)], [.inl (nI 0), .inl ((S 1025 0 0) + (nI 1)), .inr (some (25, 0))], (zu (zu (zu (zu (zu S 1025 0 0 ((S 1025 0 0) + (nI 1))) 1088 0 j1 (vp_nar .byte x1.toInt8.toInt32)) 1152 0 j2 (vp_nar .byte x2.toInt8.toInt32)) 1216 0 j3 (vp_nar .short (nI 0))) 1536 0 j4 (vp_nar .short (nI 0)), d))) rfl ?_
  obtain ⟨j5, ej5, lj5, h⟩ := h
  refine zwp_stx (n := 1300) (cd := 1600) (i := 0) (v := vp_nar .short (nI 0)) (pc' := 62) (ls := [some (.inr (some (16, 0))), some (.inl x1), some (.inl x2)]) (r := []) (t := (zu (zu (zu (zu (zu S 1025 0 0 ((S 1025 0 0) + (nI 1))) 1088 0 j1 (vp_nar .byte x1.toInt8.toInt32)) 1152 0 j2 (vp_nar .byte x2.toInt8.toInt32)) 1216 0 j3 (vp_nar .short (nI 0))) 1536 0 j4 (vp_nar .short (nI 0)), d)) rfl ej5 lj5 (by decide) ?_
  refine zwp_blk 2 (c' := (66, [some (.inr (some (16, 0))), some (.inl x1), some (.inl x2)], [.inl ((S 1025 0 0) + (nI 1))], (zu (zu (zu (zu (zu (zu S 1025 0 0 ((S 1025 0 0) + (nI 1))) 1088 0 j1 (vp_nar .byte x1.toInt8.toInt32)) 1152 0 j2 (vp_nar .byte x2.toInt8.toInt32)) 1216 0 j3 (vp_nar .short (nI 0))) 1536 0 j4 (vp_nar .short (nI 0))) 1600 0 j5 (vp_nar .short (nI 0)), d))) rfl ?_
  exact zwp_end rfl h
-- 89 PageKeeperModel.format
theorem w89_0 {S : zS} {d : Nat} {Q : zO → zT → Prop} {x1 : Int32} {x2 : Int32} {x3 : Int32} {x4 : Int32} (h : zwp 88 (0, zent 88 [.inr (some (16, 0)), .inl (nI 3), .inl x1], [], (S, d)) (zaf 89 6 [some (.inr (some (16, 0))), some (.inl x1), some (.inl x2), some (.inl x3), some (.inl x4), none, none, none, none] [] Q)) : zwp 89 (0, [some (.inr (some (16, 0))), some (.inl x1), some (.inl x2), some (.inl x3), some (.inl x4), none, none, none, none], [], (S, d)) Q := by
  refine zwp_blk 3 (c' := (3, [some (.inr (some (16, 0))), some (.inl x1), some (.inl x2), some (.inl x3), some (.inl x4), none, none, none, none], [.inl x1, .inl (nI 3), .inr (some (16, 0))], (S, d))) rfl ?_
  exact zwp_call rfl h
theorem w89_6 {S : zS} {d : Nat} {Q : zO → zT → Prop} {x1 : Int32} {x2 : Int32} {x3 : Int32} {x4 : Int32} {y0 : Int32} (h : ∃ j1 : Nat, y0 = nI j1 ∧ j1 < 1300 ∧ (∃ j2 : Nat, y0 = nI j2 ∧ j2 < 1300 ∧ (((S 1048 0 0) = 0 → zwp 89 (56, [some (.inr (some (16, 0))), some (.inl x1), some (.inl x2), some (.inl x3), some (.inl x4), some (.inl y0), some (.inl ((nI 10) * (S 1036 0 0))), none, none], [.inl (nI 0), .inl ((nI 10) * (S 1036 0 0)), .inr (some (26, 0))], (zu (zu S 1600 0 j1 (vp_nar .short x4.toInt16.toInt32)) 1344 0 j2 ((S 1036 0 0)), d)) Q) ∧ (¬ (S 1048 0 0) = 0 → zwp 89 (56, [some (.inr (some (16, 0))), some (.inl x1), some (.inl x2), some (.inl x3), some (.inl x4), some (.inl y0), some (.inl ((nI 10) * (S 1036 0 0))), none, none], [.inl (nI 1), .inl ((nI 10) * (S 1036 0 0)), .inr (some (26, 0))], (zu (zu S 1600 0 j1 (vp_nar .short x4.toInt16.toInt32)) 1344 0 j2 ((S 1036 0 0)), d)) Q)))) : zwp 89 (6, [some (.inr (some (16, 0))), some (.inl x1), some (.inl x2), some (.inl x3), some (.inl x4), none, none, none, none], [.inl y0], (S, d)) Q := by
  refine zwp_blk 6 (c' := (17, [some (.inr (some (16, 0))), some (.inl x1), some (.inl x2), some (.inl x3), some (.inl x4), some (.inl y0), none, none, none], [.inl x4.toInt16.toInt32, .inl y0, .inr (some (25, 0))], (S, d))) rfl ?_
  obtain ⟨j1, ej1, lj1, h⟩ := h
  refine zwp_stx (n := 1300) (cd := 1600) (i := 0) (v := vp_nar .short x4.toInt16.toInt32) (pc' := 18) (ls := [some (.inr (some (16, 0))), some (.inl x1), some (.inl x2), some (.inl x3), some (.inl x4), some (.inl y0), none, none, none]) (r := []) (t := (S, d)) rfl ej1 lj1 (by decide) ?_
  refine zwp_blk 5 (c' := (28, [some (.inr (some (16, 0))), some (.inl x1), some (.inl x2), some (.inl x3), some (.inl x4), some (.inl y0), none, none, none], [.inl (S 1036 0 0), .inl y0, .inr (some (21, 0))], (zu S 1600 0 j1 (vp_nar .short x4.toInt16.toInt32), d))) rfl ?_
  obtain ⟨j2, ej2, lj2, h⟩ := h
  refine zwp_stx (n := 1300) (cd := 1344) (i := 0) (v := (S 1036 0 0)) (pc' := 29) (ls := [some (.inr (some (16, 0))), some (.inl x1), some (.inl x2), some (.inl x3), some (.inl x4), some (.inl y0), none, none, none]) (r := []) (t := (zu S 1600 0 j1 (vp_nar .short x4.toInt16.toInt32), d)) rfl ej2 lj2 (by decide) ?_
  refine zwp_blk 10 (c' := (48, [some (.inr (some (16, 0))), some (.inl x1), some (.inl x2), some (.inl x3), some (.inl x4), some (.inl y0), some (.inl ((nI 10) * (S 1036 0 0))), none, none], [.inl (S 1048 0 0), .inl ((nI 10) * (S 1036 0 0)), .inr (some (26, 0))], (zu (zu S 1600 0 j1 (vp_nar .short x4.toInt16.toInt32)) 1344 0 j2 ((S 1036 0 0)), d))) rfl ?_
  refine zwp_br rfl (fun hb => ?_) (fun hb => ?_)
  · show zwp 89 (55, [some (.inr (some (16, 0))), some (.inl x1), some (.inl x2), some (.inl x3), some (.inl x4), some (.inl y0), some (.inl ((nI 10) * (S 1036 0 0))), none, none], [.inl ((nI 10) * (S 1036 0 0)), .inr (some (26, 0))], (zu (zu S 1600 0 j1 (vp_nar .short x4.toInt16.toInt32)) 1344 0 j2 ((S 1036 0 0)), d)) Q
    replace h := h.1 (of_decide_eq_true hb)
    refine zwp_blk 1 (c' := (56, [some (.inr (some (16, 0))), some (.inl x1), some (.inl x2), some (.inl x3), some (.inl x4), some (.inl y0), some (.inl ((nI 10) * (S 1036 0 0))), none, none], [.inl (nI 0), .inl ((nI 10) * (S 1036 0 0)), .inr (some (26, 0))], (zu (zu S 1600 0 j1 (vp_nar .short x4.toInt16.toInt32)) 1344 0 j2 ((S 1036 0 0)), d))) rfl ?_
    exact h
  · show zwp 89 (51, [some (.inr (some (16, 0))), some (.inl x1), some (.inl x2), some (.inl x3), some (.inl x4), some (.inl y0), some (.inl ((nI 10) * (S 1036 0 0))), none, none], [.inl ((nI 10) * (S 1036 0 0)), .inr (some (26, 0))], (zu (zu S 1600 0 j1 (vp_nar .short x4.toInt16.toInt32)) 1344 0 j2 ((S 1036 0 0)), d)) Q
    replace h := h.2 (of_decide_eq_false hb)
    refine zwp_blk 2 (c' := (56, [some (.inr (some (16, 0))), some (.inl x1), some (.inl x2), some (.inl x3), some (.inl x4), some (.inl y0), some (.inl ((nI 10) * (S 1036 0 0))), none, none], [.inl (nI 1), .inl ((nI 10) * (S 1036 0 0)), .inr (some (26, 0))], (zu (zu S 1600 0 j1 (vp_nar .short x4.toInt16.toInt32)) 1344 0 j2 ((S 1036 0 0)), d))) rfl ?_
    exact h
theorem w89_56 {S : zS} {d : Nat} {Q : zO → zT → Prop} {x1 : Int32} {x2 : Int32} {x3 : Int32} {x4 : Int32} {x5 : Int32} {x6 : Int32} {y0 : Int32} {y1 : Int32} (h : ∃ j1 : Nat, y1 = nI j1 ∧ j1 < 1000 ∧ (∃ j2 : Nat, x6 + (nI 1) = nI j2 ∧ j2 < 1000 ∧ (zwp 89 (72, [some (.inr (some (16, 0))), some (.inl x1), some (.inl x2), some (.inl x3), some (.inl x4), some (.inl x5), some (.inl x6), some (.inl (nI 0)), none], [], (zu (zu S 1664 0 j1 y0) 1664 0 j2 ((x3 - x2)), d)) Q))) : zwp 89 (56, [some (.inr (some (16, 0))), some (.inl x1), some (.inl x2), some (.inl x3), some (.inl x4), some (.inl x5), some (.inl x6), none, none], [.inl y0, .inl y1, .inr (some (26, 0))], (S, d)) Q := by
  obtain ⟨j1, ej1, lj1, h⟩ := h
  refine zwp_stx (n := 1000) (cd := 1664) (i := 0) (v := y0) (pc' := 57) (ls := [some (.inr (some (16, 0))), some (.inl x1), some (.inl x2), some (.inl x3), some (.inl x4), some (.inl x5), some (.inl x6), none, none]) (r := []) (t := (S, d)) rfl ej1 lj1 (by decide) ?_
  refine zwp_blk 8 (c' := (68, [some (.inr (some (16, 0))), some (.inl x1), some (.inl x2), some (.inl x3), some (.inl x4), some (.inl x5), some (.inl x6), none, none], [.inl (x3 - x2), .inl (x6 + (nI 1)), .inr (some (26, 0))], (zu S 1664 0 j1 y0, d))) rfl ?_
  obtain ⟨j2, ej2, lj2, h⟩ := h
  refine zwp_stx (n := 1000) (cd := 1664) (i := 0) (v := (x3 - x2)) (pc' := 69) (ls := [some (.inr (some (16, 0))), some (.inl x1), some (.inl x2), some (.inl x3), some (.inl x4), some (.inl x5), some (.inl x6), none, none]) (r := []) (t := (zu S 1664 0 j1 y0, d)) rfl ej2 lj2 (by decide) ?_
  refine zwp_blk 2 (c' := (72, [some (.inr (some (16, 0))), some (.inl x1), some (.inl x2), some (.inl x3), some (.inl x4), some (.inl x5), some (.inl x6), some (.inl (nI 0)), none], [], (zu (zu S 1664 0 j1 y0) 1664 0 j2 ((x3 - x2)), d))) rfl ?_
  exact h
theorem w89_72 {S : zS} {d : Nat} {Q : zO → zT → Prop} {x1 : Int32} {x2 : Int32} {x3 : Int32} {x4 : Int32} {x5 : Int32} {x6 : Int32} {x7 : Int32} {x8 : Option zV} (h : ((nI 4) ≤ x7 → Q (.inl none) (zu S 1036 0 0 ((S 1036 0 0) + (nI 1)), d)) ∧ (¬ (nI 4) ≤ x7 → (x3 ≤ (x2 + x7) → zwp 89 (91, [some (.inr (some (16, 0))), some (.inl x1), some (.inl x2), some (.inl x3), some (.inl x4), some (.inl x5), some (.inl x6), some (.inl x7), x8], [.inl (nI 0)], (S, d)) Q) ∧ (¬ x3 ≤ (x2 + x7) → zwp 89 (91, [some (.inr (some (16, 0))), some (.inl x1), some (.inl x2), some (.inl x3), some (.inl x4), some (.inl x5), some (.inl x6), some (.inl x7), x8], [.inl (nI 1)], (S, d)) Q))) : zwp 89 (72, [some (.inr (some (16, 0))), some (.inl x1), some (.inl x2), some (.inl x3), some (.inl x4), some (.inl x5), some (.inl x6), some (.inl x7), x8], [], (S, d)) Q := by
  refine zwp_blk 2 (c' := (75, [some (.inr (some (16, 0))), some (.inl x1), some (.inl x2), some (.inl x3), some (.inl x4), some (.inl x5), some (.inl x6), some (.inl x7), x8], [.inl (nI 4), .inl x7], (S, d))) rfl ?_
  refine zwp_br rfl (fun hb => ?_) (fun hb => ?_)
  · show zwp 89 (160, [some (.inr (some (16, 0))), some (.inl x1), some (.inl x2), some (.inl x3), some (.inl x4), some (.inl x5), some (.inl x6), some (.inl x7), x8], [], (S, d)) Q
    replace h := h.1 (of_decide_eq_true hb)
    refine zwp_blk 6 (c' := (170, [some (.inr (some (16, 0))), some (.inl x1), some (.inl x2), some (.inl x3), some (.inl x4), some (.inl x5), some (.inl x6), some (.inl x7), x8], [], (zu S 1036 0 0 ((S 1036 0 0) + (nI 1)), d))) rfl ?_
    exact zwp_end rfl h
  · show zwp 89 (78, [some (.inr (some (16, 0))), some (.inl x1), some (.inl x2), some (.inl x3), some (.inl x4), some (.inl x5), some (.inl x6), some (.inl x7), x8], [], (S, d)) Q
    replace h := h.2 (of_decide_eq_false hb)
    refine zwp_blk 4 (c' := (83, [some (.inr (some (16, 0))), some (.inl x1), some (.inl x2), some (.inl x3), some (.inl x4), some (.inl x5), some (.inl x6), some (.inl x7), x8], [.inl x3, .inl (x2 + x7)], (S, d))) rfl ?_
    refine zwp_br rfl (fun hb => ?_) (fun hb => ?_)
    · show zwp 89 (90, [some (.inr (some (16, 0))), some (.inl x1), some (.inl x2), some (.inl x3), some (.inl x4), some (.inl x5), some (.inl x6), some (.inl x7), x8], [], (S, d)) Q
      replace h := h.1 (of_decide_eq_true hb)
      refine zwp_blk 1 (c' := (91, [some (.inr (some (16, 0))), some (.inl x1), some (.inl x2), some (.inl x3), some (.inl x4), some (.inl x5), some (.inl x6), some (.inl x7), x8], [.inl (nI 0)], (S, d))) rfl ?_
      exact h
    · show zwp 89 (86, [some (.inr (some (16, 0))), some (.inl x1), some (.inl x2), some (.inl x3), some (.inl x4), some (.inl x5), some (.inl x6), some (.inl x7), x8], [], (S, d)) Q
      replace h := h.2 (of_decide_eq_false hb)
      refine zwp_blk 2 (c' := (91, [some (.inr (some (16, 0))), some (.inl x1), some (.inl x2), some (.inl x3), some (.inl x4), some (.inl x5), some (.inl x6), some (.inl x7), x8], [.inl (nI 1)], (S, d))) rfl ?_
      exact h
theorem w89_91 {S : zS} {d : Nat} {Q : zO → zT → Prop} {x1 : Int32} {x2 : Int32} {x3 : Int32} {x4 : Int32} {x5 : Int32} {x6 : Int32} {x7 : Int32} {x8 : Option zV} {y0 : Int32} (h : (y0 = 0 → zwp 89 (122, [some (.inr (some (16, 0))), some (.inl x1), some (.inl x2), some (.inl x3), some (.inl x4), some (.inl x5), some (.inl x6), some (.inl x7), some (.inl y0)], [.inl (nI 0), .inl ((x6 + (nI 2)) + x7), .inr (some (26, 0))], (S, d)) Q) ∧ (¬ y0 = 0 → ∃ j1 : Nat, x2 + x7 = nI j1 ∧ j1 < 6 ∧ (zwp 89 (122, [some (.inr (some (16, 0))), some (.inl x1), some (.inl x2), some (.inl x3), some (.inl x4), some (.inl x5), some (.inl x6), some (.inl x7), some (.inl y0)], [.inl (S 1984 0 j1), .inl ((x6 + (nI 2)) + x7), .inr (some (26, 0))], (S, d)) Q))) : zwp 89 (91, [some (.inr (some (16, 0))), some (.inl x1), some (.inl x2), some (.inl x3), some (.inl x4), some (.inl x5), some (.inl x6), some (.inl x7), x8], [.inl y0], (S, d)) Q := by
  refine zwp_blk 9 (c' := (106, [some (.inr (some (16, 0))), some (.inl x1), some (.inl x2), some (.inl x3), some (.inl x4), some (.inl x5), some (.inl x6), some (.inl x7), some (.inl y0)], [.inl y0, .inl ((x6 + (nI 2)) + x7), .inr (some (26, 0))], (S, d))) rfl ?_
  refine zwp_br rfl (fun hb => ?_) (fun hb => ?_)
  · show zwp 89 (121, [some (.inr (some (16, 0))), some (.inl x1), some (.inl x2), some (.inl x3), some (.inl x4), some (.inl x5), some (.inl x6), some (.inl x7), some (.inl y0)], [.inl ((x6 + (nI 2)) + x7), .inr (some (26, 0))], (S, d)) Q
    replace h := h.1 (of_decide_eq_true hb)
    refine zwp_blk 1 (c' := (122, [some (.inr (some (16, 0))), some (.inl x1), some (.inl x2), some (.inl x3), some (.inl x4), some (.inl x5), some (.inl x6), some (.inl x7), some (.inl y0)], [.inl (nI 0), .inl ((x6 + (nI 2)) + x7), .inr (some (26, 0))], (S, d))) rfl ?_
    exact h
  · show zwp 89 (109, [some (.inr (some (16, 0))), some (.inl x1), some (.inl x2), some (.inl x3), some (.inl x4), some (.inl x5), some (.inl x6), some (.inl x7), some (.inl y0)], [.inl ((x6 + (nI 2)) + x7), .inr (some (26, 0))], (S, d)) Q
    replace h := h.2 (of_decide_eq_false hb)
    refine zwp_blk 5 (c' := (117, [some (.inr (some (16, 0))), some (.inl x1), some (.inl x2), some (.inl x3), some (.inl x4), some (.inl x5), some (.inl x6), some (.inl x7), some (.inl y0)], [.inl (x2 + x7), .inr (some (31, 0)), .inl ((x6 + (nI 2)) + x7), .inr (some (26, 0))], (S, d))) rfl ?_
    obtain ⟨j1, ej1, lj1, h⟩ := h
    refine zwp_ldx (n := 6) (cd := 1984) (i := 0) (pc' := 118) (ls := [some (.inr (some (16, 0))), some (.inl x1), some (.inl x2), some (.inl x3), some (.inl x4), some (.inl x5), some (.inl x6), some (.inl x7), some (.inl y0)]) (r := [.inl ((x6 + (nI 2)) + x7), .inr (some (26, 0))]) (t := (S, d)) rfl ej1 lj1 (by decide) ?_
    refine zwp_blk 1 (c' := (122, [some (.inr (some (16, 0))), some (.inl x1), some (.inl x2), some (.inl x3), some (.inl x4), some (.inl x5), some (.inl x6), some (.inl x7), some (.inl y0)], [.inl (S 1984 0 j1), .inl ((x6 + (nI 2)) + x7), .inr (some (26, 0))], (S, d))) rfl ?_
    exact h
theorem w89_122 {S : zS} {d : Nat} {Q : zO → zT → Prop} {x1 : Int32} {x2 : Int32} {x3 : Int32} {x4 : Int32} {x5 : Int32} {x6 : Int32} {x7 : Int32} {x8 : Int32} {y0 : Int32} {y1 : Int32} (h : ∃ j1 : Nat, y1 = nI j1 ∧ j1 < 1000 ∧ ((x8 = 0 → ∃ j2 : Nat, (x6 + (nI 6)) + x7 = nI j2 ∧ j2 < 1000 ∧ (zwp 89 (72, [some (.inr (some (16, 0))), some (.inl x1), some (.inl x2), some (.inl x3), some (.inl x4), some (.inl x5), some (.inl x6), some (.inl (x7 + nI 1)), some (.inl x8)], [], (zu (zu S 1664 0 j1 y0) 1664 0 j2 ((nI 0)), d)) Q)) ∧ (¬ x8 = 0 → ∃ j3 : Nat, x2 + x7 = nI j3 ∧ j3 < 6 ∧ (∃ j4 : Nat, (x6 + (nI 6)) + x7 = nI j4 ∧ j4 < 1000 ∧ (zwp 89 (72, [some (.inr (some (16, 0))), some (.inl x1), some (.inl x2), some (.inl x3), some (.inl x4), some (.inl x5), some (.inl x6), some (.inl (x7 + nI 1)), some (.inl x8)], [], (zu (zu S 1664 0 j1 y0) 1664 0 j4 ((S 2048 0 j3)), d)) Q))))) : zwp 89 (122, [some (.inr (some (16, 0))), some (.inl x1), some (.inl x2), some (.inl x3), some (.inl x4), some (.inl x5), some (.inl x6), some (.inl x7), some (.inl x8)], [.inl y0, .inl y1, .inr (some (26, 0))], (S, d)) Q := by
  obtain ⟨j1, ej1, lj1, h⟩ := h
  refine zwp_stx (n := 1000) (cd := 1664) (i := 0) (v := y0) (pc' := 123) (ls := [some (.inr (some (16, 0))), some (.inl x1), some (.inl x2), some (.inl x3), some (.inl x4), some (.inl x5), some (.inl x6), some (.inl x7), some (.inl x8)]) (r := []) (t := (S, d)) rfl ej1 lj1 (by decide) ?_
  refine zwp_blk 8 (c' := (137, [some (.inr (some (16, 0))), some (.inl x1), some (.inl x2), some (.inl x3), some (.inl x4), some (.inl x5), some (.inl x6), some (.inl x7), some (.inl x8)], [.inl x8, .inl ((x6 + (nI 6)) + x7), .inr (some (26, 0))], (zu S 1664 0 j1 y0, d))) rfl ?_
  refine zwp_br rfl (fun hb => ?_) (fun hb => ?_)
  · show zwp 89 (152, [some (.inr (some (16, 0))), some (.inl x1), some (.inl x2), some (.inl x3), some (.inl x4), some (.inl x5), some (.inl x6), some (.inl x7), some (.inl x8)], [.inl ((x6 + (nI 6)) + x7), .inr (some (26, 0))], (zu S 1664 0 j1 y0, d)) Q
    replace h := h.1 (of_decide_eq_true hb)
    refine zwp_blk 1 (c' := (153, [some (.inr (some (16, 0))), some (.inl x1), some (.inl x2), some (.inl x3), some (.inl x4), some (.inl x5), some (.inl x6), some (.inl x7), some (.inl x8)], [.inl (nI 0), .inl ((x6 + (nI 6)) + x7), .inr (some (26, 0))], (zu S 1664 0 j1 y0, d))) rfl ?_
    obtain ⟨j2, ej2, lj2, h⟩ := h
    refine zwp_stx (n := 1000) (cd := 1664) (i := 0) (v := (nI 0)) (pc' := 154) (ls := [some (.inr (some (16, 0))), some (.inl x1), some (.inl x2), some (.inl x3), some (.inl x4), some (.inl x5), some (.inl x6), some (.inl x7), some (.inl x8)]) (r := []) (t := (zu S 1664 0 j1 y0, d)) rfl ej2 lj2 (by decide) ?_
    refine zwp_blk 2 (c' := (72, [some (.inr (some (16, 0))), some (.inl x1), some (.inl x2), some (.inl x3), some (.inl x4), some (.inl x5), some (.inl x6), some (.inl (x7 + nI 1)), some (.inl x8)], [], (zu (zu S 1664 0 j1 y0) 1664 0 j2 ((nI 0)), d))) rfl ?_
    exact h
  · show zwp 89 (140, [some (.inr (some (16, 0))), some (.inl x1), some (.inl x2), some (.inl x3), some (.inl x4), some (.inl x5), some (.inl x6), some (.inl x7), some (.inl x8)], [.inl ((x6 + (nI 6)) + x7), .inr (some (26, 0))], (zu S 1664 0 j1 y0, d)) Q
    replace h := h.2 (of_decide_eq_false hb)
    refine zwp_blk 5 (c' := (148, [some (.inr (some (16, 0))), some (.inl x1), some (.inl x2), some (.inl x3), some (.inl x4), some (.inl x5), some (.inl x6), some (.inl x7), some (.inl x8)], [.inl (x2 + x7), .inr (some (32, 0)), .inl ((x6 + (nI 6)) + x7), .inr (some (26, 0))], (zu S 1664 0 j1 y0, d))) rfl ?_
    obtain ⟨j3, ej3, lj3, h⟩ := h
    refine zwp_ldx (n := 6) (cd := 2048) (i := 0) (pc' := 149) (ls := [some (.inr (some (16, 0))), some (.inl x1), some (.inl x2), some (.inl x3), some (.inl x4), some (.inl x5), some (.inl x6), some (.inl x7), some (.inl x8)]) (r := [.inl ((x6 + (nI 6)) + x7), .inr (some (26, 0))]) (t := (zu S 1664 0 j1 y0, d)) rfl ej3 lj3 (by decide) ?_
    refine zwp_blk 1 (c' := (153, [some (.inr (some (16, 0))), some (.inl x1), some (.inl x2), some (.inl x3), some (.inl x4), some (.inl x5), some (.inl x6), some (.inl x7), some (.inl x8)], [.inl (S 2048 0 j3), .inl ((x6 + (nI 6)) + x7), .inr (some (26, 0))], (zu S 1664 0 j1 y0, d))) rfl ?_
    obtain ⟨j4, ej4, lj4, h⟩ := h
    refine zwp_stx (n := 1000) (cd := 1664) (i := 0) (v := (S 2048 0 j3)) (pc' := 154) (ls := [some (.inr (some (16, 0))), some (.inl x1), some (.inl x2), some (.inl x3), some (.inl x4), some (.inl x5), some (.inl x6), some (.inl x7), some (.inl x8)]) (r := []) (t := (zu S 1664 0 j1 y0, d)) rfl ej4 lj4 (by decide) ?_
    refine zwp_blk 2 (c' := (72, [some (.inr (some (16, 0))), some (.inl x1), some (.inl x2), some (.inl x3), some (.inl x4), some (.inl x5), some (.inl x6), some (.inl (x7 + nI 1)), some (.inl x8)], [], (zu (zu S 1664 0 j1 y0) 1664 0 j4 ((S 2048 0 j3)), d))) rfl ?_
    exact h
-- 90 PageKeeperModel.formatRoot
theorem w90_0 {S : zS} {d : Nat} {Q : zO → zT → Prop} {x1 : Int32} {x2 : Int32} {x3 : Int32} {x4 : Int32} (h : zwp 86 (0, zent 86 [.inr (some (16, 0)), .inl (nI 0)], [], (S, d)) (zaf 90 5 [some (.inr (some (16, 0))), some (.inl x1), some (.inl x2), some (.inl x3), some (.inl x4), none, none] [] Q)) : zwp 90 (0, [some (.inr (some (16, 0))), some (.inl x1), some (.inl x2), some (.inl x3), some (.inl x4), none, none], [], (S, d)) Q := by
  refine zwp_blk 2 (c' := (2, [some (.inr (some (16, 0))), some (.inl x1), some (.inl x2), some (.inl x3), some (.inl x4), none, none], [.inl (nI 0), .inr (some (16, 0))], (S, d))) rfl ?_
  exact zwp_call rfl h
theorem w90_5 {S : zS} {d : Nat} {Q : zO → zT → Prop} {x1 : Int32} {x2 : Int32} {x3 : Int32} {x4 : Int32} (h : zwp 88 (0, zent 88 [.inr (some (16, 0)), .inl (nI 3), .inl (nI 0)], [], (S, d)) (zaf 90 11 [some (.inr (some (16, 0))), some (.inl x1), some (.inl x2), some (.inl x3), some (.inl x4), none, none] [] Q)) : zwp 90 (5, [some (.inr (some (16, 0))), some (.inl x1), some (.inl x2), some (.inl x3), some (.inl x4), none, none], [], (S, d)) Q := by
  refine zwp_blk 3 (c' := (8, [some (.inr (some (16, 0))), some (.inl x1), some (.inl x2), some (.inl x3), some (.inl x4), none, none], [.inl (nI 0), .inl (nI 3), .inr (some (16, 0))], (S, d))) rfl ?_
  exact zwp_call rfl h
theorem w90_11 {S : zS} {d : Nat} {Q : zO → zT → Prop} {x1 : Int32} {x2 : Int32} {x3 : Int32} {x4 : Int32} {y0 : Int32} (h : ∃ j1 : Nat, y0 = nI j1 ∧ j1 < 1300 ∧ (∃ j2 : Nat, y0 = nI j2 ∧ j2 < 1300 ∧ (∃ j3 : Nat, (nI 10) * (S 1036 0 0) = nI j3 ∧ j3 < 1000 ∧ (∃ j4 : Nat, ((nI 10) * (S 1036 0 0)) + (nI 1) = nI j4 ∧ j4 < 1000 ∧ (∃ j5 : Nat, ((nI 10) * (S 1036 0 0)) + (nI 2) = nI j5 ∧ j5 < 1000 ∧ (∃ j6 : Nat, ((nI 10) * (S 1036 0 0)) + (nI 3) = nI j6 ∧ j6 < 1000 ∧ (∃ j7 : Nat, ((nI 10) * (S 1036 0 0)) + (nI 6) = nI j7 ∧ j7 < 1000 ∧ (Q (.inl none) (zu (zu (zu (zu (zu (zu (zu (zu S 1600 0 j1 (vp_nar .short x4.toInt16.toInt32)) 1344 0 j2 ((S 1036 0 0))) 1664 0 j3 ((nI 1))) 1664 0 j4 ((nI 2))) 1664 0 j5 x1) 1664 0 j6 x2) 1664 0 j7 x3) 1036 0 0 ((S 1036 0 0) + (nI 1)), d))))))))) : zwp 90 (11, [some (.inr (some (16, 0))), some (.inl x1), some (.inl x2), some (.inl x3), some (.inl x4), none, none], [.inl y0], (S, d)) Q := by
  refine zwp_blk 6 (c' := (22, [some (.inr (some (16, 0))), some (.inl x1), some (.inl x2), some (.inl x3), some (.inl x4), some (.inl y0), none], [.inl x4.toInt16.toInt32, .inl y0, .inr (some (25, 0))], (S, d))) rfl ?_
  obtain ⟨j1, ej1, lj1, h⟩ := h
  refine zwp_stx (n := 1300) (cd := 1600) (i := 0) (v := vp_nar .short x4.toInt16.toInt32) (pc' := 23) (ls := [some (.inr (some (16, 0))), some (.inl x1), some (.inl x2), some (.inl x3), some (.inl x4), some (.inl y0), none]) (r := []) (t := (S, d)) rfl ej1 lj1 (by decide) ?_
  refine zwp_blk 5 (c' := (33, [some (.inr (some (16, 0))), some (.inl x1), some (.inl x2), some (.inl x3), some (.inl x4), some (.inl y0), none], [.inl (S 1036 0 0), .inl y0, .inr (some (21, 0))], (zu S 1600 0 j1 (vp_nar .short x4.toInt16.toInt32), d))) rfl ?_
  obtain ⟨j2, ej2, lj2, h⟩ := h
  refine zwp_stx (n := 1300) (cd := 1344) (i := 0) (v := (S 1036 0 0)) (pc' := 34) (ls := [some (.inr (some (16, 0))), some (.inl x1), some (.inl x2), some (.inl x3), some (.inl x4), some (.inl y0), none]) (r := []) (t := (zu S 1600 0 j1 (vp_nar .short x4.toInt16.toInt32), d)) rfl ej2 lj2 (by decide) ?_
  refine zwp_blk 9 (c' := (50, [some (.inr (some (16, 0))), some (.inl x1), some (.inl x2), some (.inl x3), some (.inl x4), some (.inl y0), some (.inl ((nI 10) * (S 1036 0 0)))], [.inl (nI 1), .inl ((nI 10) * (S 1036 0 0)), .inr (some (26, 0))], (zu (zu S 1600 0 j1 (vp_nar .short x4.toInt16.toInt32)) 1344 0 j2 ((S 1036 0 0)), d))) rfl ?_
  obtain ⟨j3, ej3, lj3, h⟩ := h
  refine zwp_stx (n := 1000) (cd := 1664) (i := 0) (v := (nI 1)) (pc' := 51) (ls := [some (.inr (some (16, 0))), some (.inl x1), some (.inl x2), some (.inl x3), some (.inl x4), some (.inl y0), some (.inl ((nI 10) * (S 1036 0 0)))]) (r := []) (t := (zu (zu S 1600 0 j1 (vp_nar .short x4.toInt16.toInt32)) 1344 0 j2 ((S 1036 0 0)), d)) rfl ej3 lj3 (by decide) ?_
  refine zwp_blk 6 (c' := (60, [some (.inr (some (16, 0))), some (.inl x1), some (.inl x2), some (.inl x3), some (.inl x4), some (.inl y0), some (.inl ((nI 10) * (S 1036 0 0)))], [.inl (nI 2), .inl (((nI 10) * (S 1036 0 0)) + (nI 1)), .inr (some (26, 0))], (zu (zu (zu S 1600 0 j1 (vp_nar .short x4.toInt16.toInt32)) 1344 0 j2 ((S 1036 0 0))) 1664 0 j3 ((nI 1)), d))) rfl ?_
  obtain ⟨j4, ej4, lj4, h⟩ := h
  refine zwp_stx (n := 1000) (cd := 1664) (i := 0) (v := (nI 2)) (pc' := 61) (ls := [some (.inr (some (16, 0))), some (.inl x1), some (.inl x2), some (.inl x3), some (.inl x4), some (.inl y0), some (.inl ((nI 10) * (S 1036 0 0)))]) (r := []) (t := (zu (zu (zu S 1600 0 j1 (vp_nar .short x4.toInt16.toInt32)) 1344 0 j2 ((S 1036 0 0))) 1664 0 j3 ((nI 1)), d)) rfl ej4 lj4 (by decide) ?_
  refine zwp_blk 6 (c' := (70, [some (.inr (some (16, 0))), some (.inl x1), some (.inl x2), some (.inl x3), some (.inl x4), some (.inl y0), some (.inl ((nI 10) * (S 1036 0 0)))], [.inl x1, .inl (((nI 10) * (S 1036 0 0)) + (nI 2)), .inr (some (26, 0))], (zu (zu (zu (zu S 1600 0 j1 (vp_nar .short x4.toInt16.toInt32)) 1344 0 j2 ((S 1036 0 0))) 1664 0 j3 ((nI 1))) 1664 0 j4 ((nI 2)), d))) rfl ?_
  obtain ⟨j5, ej5, lj5, h⟩ := h
  refine zwp_stx (n := 1000) (cd := 1664) (i := 0) (v := x1) (pc' := 71) (ls := [some (.inr (some (16, 0))), some (.inl x1), some (.inl x2), some (.inl x3), some (.inl x4), some (.inl y0), some (.inl ((nI 10) * (S 1036 0 0)))]) (r := []) (t := (zu (zu (zu (zu S 1600 0 j1 (vp_nar .short x4.toInt16.toInt32)) 1344 0 j2 ((S 1036 0 0))) 1664 0 j3 ((nI 1))) 1664 0 j4 ((nI 2)), d)) rfl ej5 lj5 (by decide) ?_
  refine zwp_blk 6 (c' := (80, [some (.inr (some (16, 0))), some (.inl x1), some (.inl x2), some (.inl x3), some (.inl x4), some (.inl y0), some (.inl ((nI 10) * (S 1036 0 0)))], [.inl x2, .inl (((nI 10) * (S 1036 0 0)) + (nI 3)), .inr (some (26, 0))], (zu (zu (zu (zu (zu S 1600 0 j1 (vp_nar .short x4.toInt16.toInt32)) 1344 0 j2 ((S 1036 0 0))) 1664 0 j3 ((nI 1))) 1664 0 j4 ((nI 2))) 1664 0 j5 x1, d))) rfl ?_
  obtain ⟨j6, ej6, lj6, h⟩ := h
  refine zwp_stx (n := 1000) (cd := 1664) (i := 0) (v := x2) (pc' := 81) (ls := [some (.inr (some (16, 0))), some (.inl x1), some (.inl x2), some (.inl x3), some (.inl x4), some (.inl y0), some (.inl ((nI 10) * (S 1036 0 0)))]) (r := []) (t := (zu (zu (zu (zu (zu S 1600 0 j1 (vp_nar .short x4.toInt16.toInt32)) 1344 0 j2 ((S 1036 0 0))) 1664 0 j3 ((nI 1))) 1664 0 j4 ((nI 2))) 1664 0 j5 x1, d)) rfl ej6 lj6 (by decide) ?_
  refine zwp_blk 6 (c' := (91, [some (.inr (some (16, 0))), some (.inl x1), some (.inl x2), some (.inl x3), some (.inl x4), some (.inl y0), some (.inl ((nI 10) * (S 1036 0 0)))], [.inl x3, .inl (((nI 10) * (S 1036 0 0)) + (nI 6)), .inr (some (26, 0))], (zu (zu (zu (zu (zu (zu S 1600 0 j1 (vp_nar .short x4.toInt16.toInt32)) 1344 0 j2 ((S 1036 0 0))) 1664 0 j3 ((nI 1))) 1664 0 j4 ((nI 2))) 1664 0 j5 x1) 1664 0 j6 x2, d))) rfl ?_
  obtain ⟨j7, ej7, lj7, h⟩ := h
  refine zwp_stx (n := 1000) (cd := 1664) (i := 0) (v := x3) (pc' := 92) (ls := [some (.inr (some (16, 0))), some (.inl x1), some (.inl x2), some (.inl x3), some (.inl x4), some (.inl y0), some (.inl ((nI 10) * (S 1036 0 0)))]) (r := []) (t := (zu (zu (zu (zu (zu (zu S 1600 0 j1 (vp_nar .short x4.toInt16.toInt32)) 1344 0 j2 ((S 1036 0 0))) 1664 0 j3 ((nI 1))) 1664 0 j4 ((nI 2))) 1664 0 j5 x1) 1664 0 j6 x2, d)) rfl ej7 lj7 (by decide) ?_
  refine zwp_blk 6 (c' := (102, [some (.inr (some (16, 0))), some (.inl x1), some (.inl x2), some (.inl x3), some (.inl x4), some (.inl y0), some (.inl ((nI 10) * (S 1036 0 0)))], [], (zu (zu (zu (zu (zu (zu (zu (zu S 1600 0 j1 (vp_nar .short x4.toInt16.toInt32)) 1344 0 j2 ((S 1036 0 0))) 1664 0 j3 ((nI 1))) 1664 0 j4 ((nI 2))) 1664 0 j5 x1) 1664 0 j6 x2) 1664 0 j7 x3) 1036 0 0 ((S 1036 0 0) + (nI 1)), d))) rfl ?_
  exact zwp_end rfl h
-- 91 PageKeeperModel.split
theorem w91_0 {S : zS} {d : Nat} {Q : zO → zT → Prop} {x1 : Int32} {x2 : Int32} {x3 : Int32} (h : ((S 1048 0 0) = 0 → ∃ j1 : Nat, nI 2 = nI j1 ∧ j1 < 6 ∧ (zwp 91 (22, [some (.inr (some (16, 0))), some (.inl x1), some (.inl x2), some (.inl x3), none, none, none, none, none], [.inl (S 1984 0 j1)], (S, d)) Q)) ∧ (¬ (S 1048 0 0) = 0 → ∃ j2 : Nat, nI 1 = nI j2 ∧ j2 < 6 ∧ (zwp 91 (22, [some (.inr (some (16, 0))), some (.inl x1), some (.inl x2), some (.inl x3), none, none, none, none, none], [.inl (S 2048 0 j2)], (S, d)) Q))) : zwp 91 (0, [some (.inr (some (16, 0))), some (.inl x1), some (.inl x2), some (.inl x3), none, none, none, none, none], [], (S, d)) Q := by
  refine zwp_blk 2 (c' := (4, [some (.inr (some (16, 0))), some (.inl x1), some (.inl x2), some (.inl x3), none, none, none, none, none], [.inl (S 1048 0 0)], (S, d))) rfl ?_
  refine zwp_br rfl (fun hb => ?_) (fun hb => ?_)
  · show zwp 91 (16, [some (.inr (some (16, 0))), some (.inl x1), some (.inl x2), some (.inl x3), none, none, none, none, none], [], (S, d)) Q
    replace h := h.1 (of_decide_eq_true hb)
    refine zwp_blk 3 (c' := (21, [some (.inr (some (16, 0))), some (.inl x1), some (.inl x2), some (.inl x3), none, none, none, none, none], [.inl (nI 2), .inr (some (31, 0))], (S, d))) rfl ?_
    obtain ⟨j1, ej1, lj1, h⟩ := h
    refine zwp_ldx (n := 6) (cd := 1984) (i := 0) (pc' := 22) (ls := [some (.inr (some (16, 0))), some (.inl x1), some (.inl x2), some (.inl x3), none, none, none, none, none]) (r := []) (t := (S, d)) rfl ej1 lj1 (by decide) ?_
    exact h
  · show zwp 91 (7, [some (.inr (some (16, 0))), some (.inl x1), some (.inl x2), some (.inl x3), none, none, none, none, none], [], (S, d)) Q
    replace h := h.2 (of_decide_eq_false hb)
    refine zwp_blk 3 (c' := (12, [some (.inr (some (16, 0))), some (.inl x1), some (.inl x2), some (.inl x3), none, none, none, none, none], [.inl (nI 1), .inr (some (32, 0))], (S, d))) rfl ?_
    obtain ⟨j2, ej2, lj2, h⟩ := h
    refine zwp_ldx (n := 6) (cd := 2048) (i := 0) (pc' := 13) (ls := [some (.inr (some (16, 0))), some (.inl x1), some (.inl x2), some (.inl x3), none, none, none, none, none]) (r := []) (t := (S, d)) rfl ej2 lj2 (by decide) ?_
    refine zwp_blk 1 (c' := (22, [some (.inr (some (16, 0))), some (.inl x1), some (.inl x2), some (.inl x3), none, none, none, none, none], [.inl (S 2048 0 j2)], (S, d))) rfl ?_
    exact h
theorem w91_22 {S : zS} {d : Nat} {Q : zO → zT → Prop} {x1 : Int32} {x2 : Int32} {x3 : Int32} {y0 : Int32} (h : (x1 = 0 → zwp 87 (0, zent 87 [.inr (some (16, 0))], [], (S, d)) (zaf 91 40 [some (.inr (some (16, 0))), some (.inl x1), some (.inl x2), some (.inl x3), some (.inl y0), some (.inl ((S 1025 0 0) + (nI 3))), none, none, none] [] Q)) ∧ (¬ x1 = 0 → zwp 87 (0, zent 87 [.inr (some (16, 0))], [], (S, d)) (zaf 91 98 [some (.inr (some (16, 0))), some (.inl x1), some (.inl x2), some (.inl x3), some (.inl y0), some (.inl ((S 1025 0 0) + (nI 3))), none, none, none] [] Q))) : zwp 91 (22, [some (.inr (some (16, 0))), some (.inl x1), some (.inl x2), some (.inl x3), none, none, none, none, none], [.inl y0], (S, d)) Q := by
  refine zwp_blk 7 (c' := (33, [some (.inr (some (16, 0))), some (.inl x1), some (.inl x2), some (.inl x3), some (.inl y0), some (.inl ((S 1025 0 0) + (nI 3))), none, none, none], [.inl x1], (S, d))) rfl ?_
  refine zwp_br rfl (fun hb => ?_) (fun hb => ?_)
  · show zwp 91 (94, [some (.inr (some (16, 0))), some (.inl x1), some (.inl x2), some (.inl x3), some (.inl y0), some (.inl ((S 1025 0 0) + (nI 3))), none, none, none], [], (S, d)) Q
    replace h := h.2 (zne_t hb)
    refine zwp_blk 1 (c' := (95, [some (.inr (some (16, 0))), some (.inl x1), some (.inl x2), some (.inl x3), some (.inl y0), some (.inl ((S 1025 0 0) + (nI 3))), none, none, none], [.inr (some (16, 0))], (S, d))) rfl ?_
    exact zwp_call rfl h
  · show zwp 91 (36, [some (.inr (some (16, 0))), some (.inl x1), some (.inl x2), some (.inl x3), some (.inl y0), some (.inl ((S 1025 0 0) + (nI 3))), none, none, none], [], (S, d)) Q
    replace h := h.1 (zne_f hb)
    refine zwp_blk 1 (c' := (37, [some (.inr (some (16, 0))), some (.inl x1), some (.inl x2), some (.inl x3), some (.inl y0), some (.inl ((S 1025 0 0) + (nI 3))), none, none, none], [.inr (some (16, 0))], (S, d))) rfl ?_
    exact zwp_call rfl h
theorem w91_40 {S : zS} {d : Nat} {Q : zO → zT → Prop} {x1 : Int32} {x2 : Int32} {x3 : Int32} {x4 : Int32} {x5 : Int32} {y0 : Int32} (h : zwp 89 (0, zent 89 [.inr (some (16, 0)), .inl y0, .inl (nI 0), .inl (nI 2), .inl x5], [], (S, d)) (zaf 91 52 [some (.inr (some (16, 0))), some (.inl x1), some (.inl x2), some (.inl x3), some (.inl x4), some (.inl x5), some (.inl y0), none, none] [] Q)) : zwp 91 (40, [some (.inr (some (16, 0))), some (.inl x1), some (.inl x2), some (.inl x3), some (.inl x4), some (.inl x5), none, none, none], [.inl y0], (S, d)) Q := by
  refine zwp_blk 6 (c' := (49, [some (.inr (some (16, 0))), some (.inl x1), some (.inl x2), some (.inl x3), some (.inl x4), some (.inl x5), some (.inl y0), none, none], [.inl x5, .inl (nI 2), .inl (nI 0), .inl y0, .inr (some (16, 0))], (S, d))) rfl ?_
  exact zwp_call rfl h
theorem w91_52 {S : zS} {d : Nat} {Q : zO → zT → Prop} {x1 : Int32} {x2 : Int32} {x3 : Int32} {x4 : Int32} {x5 : Int32} {x6 : Int32} (h : zwp 87 (0, zent 87 [.inr (some (16, 0))], [], (S, d)) (zaf 91 56 [some (.inr (some (16, 0))), some (.inl x1), some (.inl x2), some (.inl x3), some (.inl x4), some (.inl x5), some (.inl x6), none, none] [] Q)) : zwp 91 (52, [some (.inr (some (16, 0))), some (.inl x1), some (.inl x2), some (.inl x3), some (.inl x4), some (.inl x5), some (.inl x6), none, none], [], (S, d)) Q := by
  refine zwp_blk 1 (c' := (53, [some (.inr (some (16, 0))), some (.inl x1), some (.inl x2), some (.inl x3), some (.inl x4), some (.inl x5), some (.inl x6), none, none], [.inr (some (16, 0))], (S, d))) rfl ?_
  exact zwp_call rfl h
theorem w91_56 {S : zS} {d : Nat} {Q : zO → zT → Prop} {x1 : Int32} {x2 : Int32} {x3 : Int32} {x4 : Int32} {x5 : Int32} {x6 : Int32} {y0 : Int32} (h : zwp 89 (0, zent 89 [.inr (some (16, 0)), .inl y0, .inl (nI 2), .inl (nI 4), .inl x5], [], (S, d)) (zaf 91 68 [some (.inr (some (16, 0))), some (.inl x1), some (.inl x2), some (.inl x3), some (.inl x4), some (.inl x5), some (.inl x6), some (.inl y0), none] [] Q)) : zwp 91 (56, [some (.inr (some (16, 0))), some (.inl x1), some (.inl x2), some (.inl x3), some (.inl x4), some (.inl x5), some (.inl x6), none, none], [.inl y0], (S, d)) Q := by
  refine zwp_blk 6 (c' := (65, [some (.inr (some (16, 0))), some (.inl x1), some (.inl x2), some (.inl x3), some (.inl x4), some (.inl x5), some (.inl x6), some (.inl y0), none], [.inl x5, .inl (nI 4), .inl (nI 2), .inl y0, .inr (some (16, 0))], (S, d))) rfl ?_
  exact zwp_call rfl h
theorem w91_68 {S : zS} {d : Nat} {Q : zO → zT → Prop} {x1 : Int32} {x2 : Int32} {x3 : Int32} {x4 : Int32} {x5 : Int32} {x6 : Int32} {x7 : Int32} (h : zwp 90 (0, zent 90 [.inr (some (16, 0)), .inl x6, .inl x7, .inl x4, .inl x5], [], (S, d)) (zaf 91 80 [some (.inr (some (16, 0))), some (.inl x1), some (.inl x2), some (.inl x3), some (.inl x4), some (.inl x5), some (.inl x6), some (.inl x7), none] [] Q)) : zwp 91 (68, [some (.inr (some (16, 0))), some (.inl x1), some (.inl x2), some (.inl x3), some (.inl x4), some (.inl x5), some (.inl x6), some (.inl x7), none], [], (S, d)) Q := by
  refine zwp_blk 5 (c' := (77, [some (.inr (some (16, 0))), some (.inl x1), some (.inl x2), some (.inl x3), some (.inl x4), some (.inl x5), some (.inl x6), some (.inl x7), none], [.inl x5, .inl x4, .inl x7, .inl x6, .inr (some (16, 0))], (S, d))) rfl ?_
  exact zwp_call rfl h
theorem w91_80 {S : zS} {d : Nat} {Q : zO → zT → Prop} {x1 : Int32} {x2 : Int32} {x3 : Int32} {x4 : Int32} {x5 : Int32} {x6 : Int32} {x7 : Int32} (h : (x4 ≤ x3 → Q (.inl (some (.inl x7))) (S, d)) ∧ (¬ x4 ≤ x3 → Q (.inl (some (.inl x6))) (S, d))) : zwp 91 (80, [some (.inr (some (16, 0))), some (.inl x1), some (.inl x2), some (.inl x3), some (.inl x4), some (.inl x5), some (.inl x6), some (.inl x7), none], [], (S, d)) Q := by
  refine zwp_blk 2 (c' := (83, [some (.inr (some (16, 0))), some (.inl x1), some (.inl x2), some (.inl x3), some (.inl x4), some (.inl x5), some (.inl x6), some (.inl x7), none], [.inl x4, .inl x3], (S, d))) rfl ?_
  refine zwp_br rfl (fun hb => ?_) (fun hb => ?_)
  · show zwp 91 (91, [some (.inr (some (16, 0))), some (.inl x1), some (.inl x2), some (.inl x3), some (.inl x4), some (.inl x5), some (.inl x6), some (.inl x7), none], [], (S, d)) Q
    replace h := h.1 (of_decide_eq_true hb)
    refine zwp_blk 1 (c' := (93, [some (.inr (some (16, 0))), some (.inl x1), some (.inl x2), some (.inl x3), some (.inl x4), some (.inl x5), some (.inl x6), some (.inl x7), none], [.inl x7], (S, d))) rfl ?_
    exact zwp_end rfl h
  · show zwp 91 (86, [some (.inr (some (16, 0))), some (.inl x1), some (.inl x2), some (.inl x3), some (.inl x4), some (.inl x5), some (.inl x6), some (.inl x7), none], [], (S, d)) Q
    replace h := h.2 (of_decide_eq_false hb)
    refine zwp_blk 2 (c' := (93, [some (.inr (some (16, 0))), some (.inl x1), some (.inl x2), some (.inl x3), some (.inl x4), some (.inl x5), some (.inl x6), some (.inl x7), none], [.inl x6], (S, d))) rfl ?_
    exact zwp_end rfl h
theorem w91_98 {S : zS} {d : Nat} {Q : zO → zT → Prop} {x1 : Int32} {x2 : Int32} {x3 : Int32} {x4 : Int32} {x5 : Int32} {y0 : Int32} (h : zwp 89 (0, zent 89 [.inr (some (16, 0)), .inl y0, .inl (nI 2), .inl (nI 4), .inl x5], [], (S, d)) (zaf 91 110 [some (.inr (some (16, 0))), some (.inl x1), some (.inl x2), some (.inl x3), some (.inl x4), some (.inl x5), some (.inl y0), none, none] [] Q)) : zwp 91 (98, [some (.inr (some (16, 0))), some (.inl x1), some (.inl x2), some (.inl x3), some (.inl x4), some (.inl x5), none, none, none], [.inl y0], (S, d)) Q := by
  refine zwp_blk 6 (c' := (107, [some (.inr (some (16, 0))), some (.inl x1), some (.inl x2), some (.inl x3), some (.inl x4), some (.inl x5), some (.inl y0), none, none], [.inl x5, .inl (nI 4), .inl (nI 2), .inl y0, .inr (some (16, 0))], (S, d))) rfl ?_
  exact zwp_call rfl h
theorem w91_110 {S : zS} {d : Nat} {Q : zO → zT → Prop} {x1 : Int32} {x2 : Int32} {x3 : Int32} {x4 : Int32} {x5 : Int32} {x6 : Int32} (h : zwp 86 (0, zent 86 [.inr (some (16, 0)), .inl x1], [], (S, d)) (zaf 91 115 [some (.inr (some (16, 0))), some (.inl x1), some (.inl x2), some (.inl x3), some (.inl x4), some (.inl x5), some (.inl x6), none, none] [] Q)) : zwp 91 (110, [some (.inr (some (16, 0))), some (.inl x1), some (.inl x2), some (.inl x3), some (.inl x4), some (.inl x5), some (.inl x6), none, none], [], (S, d)) Q := by
  refine zwp_blk 2 (c' := (112, [some (.inr (some (16, 0))), some (.inl x1), some (.inl x2), some (.inl x3), some (.inl x4), some (.inl x5), some (.inl x6), none, none], [.inl x1, .inr (some (16, 0))], (S, d))) rfl ?_
  exact zwp_call rfl h
theorem w91_115 {S : zS} {d : Nat} {Q : zO → zT → Prop} {x1 : Int32} {x2 : Int32} {x3 : Int32} {x4 : Int32} {x5 : Int32} {x6 : Int32} (h : zwp 88 (0, zent 88 [.inr (some (16, 0)), .inl (nI 4), .inl x1], [], (S, d)) (zaf 91 121 [some (.inr (some (16, 0))), some (.inl x1), some (.inl x2), some (.inl x3), some (.inl x4), some (.inl x5), some (.inl x6), none, none] [] Q)) : zwp 91 (115, [some (.inr (some (16, 0))), some (.inl x1), some (.inl x2), some (.inl x3), some (.inl x4), some (.inl x5), some (.inl x6), none, none], [], (S, d)) Q := by
  refine zwp_blk 3 (c' := (118, [some (.inr (some (16, 0))), some (.inl x1), some (.inl x2), some (.inl x3), some (.inl x4), some (.inl x5), some (.inl x6), none, none], [.inl x1, .inl (nI 4), .inr (some (16, 0))], (S, d))) rfl ?_
  exact zwp_call rfl h
theorem w91_121 {S : zS} {d : Nat} {Q : zO → zT → Prop} {x1 : Int32} {x2 : Int32} {x3 : Int32} {x4 : Int32} {x5 : Int32} {x6 : Int32} {y0 : Int32} (h : ∃ j1 : Nat, y0 = nI j1 ∧ j1 < 1300 ∧ (zwp 86 (0, zent 86 [.inr (some (16, 0)), .inl x2], [], (zu S 1600 0 j1 (vp_nar .short x5.toInt16.toInt32), d)) (zaf 91 138 [some (.inr (some (16, 0))), some (.inl x1), some (.inl x2), some (.inl x3), some (.inl x4), some (.inl x5), some (.inl x6), some (.inl y0), none] [] Q))) : zwp 91 (121, [some (.inr (some (16, 0))), some (.inl x1), some (.inl x2), some (.inl x3), some (.inl x4), some (.inl x5), some (.inl x6), none, none], [.inl y0], (S, d)) Q := by
  refine zwp_blk 6 (c' := (132, [some (.inr (some (16, 0))), some (.inl x1), some (.inl x2), some (.inl x3), some (.inl x4), some (.inl x5), some (.inl x6), some (.inl y0), none], [.inl x5.toInt16.toInt32, .inl y0, .inr (some (25, 0))], (S, d))) rfl ?_
  obtain ⟨j1, ej1, lj1, h⟩ := h
  refine zwp_stx (n := 1300) (cd := 1600) (i := 0) (v := vp_nar .short x5.toInt16.toInt32) (pc' := 133) (ls := [some (.inr (some (16, 0))), some (.inl x1), some (.inl x2), some (.inl x3), some (.inl x4), some (.inl x5), some (.inl x6), some (.inl y0), none]) (r := []) (t := (S, d)) rfl ej1 lj1 (by decide) ?_
  refine zwp_blk 2 (c' := (135, [some (.inr (some (16, 0))), some (.inl x1), some (.inl x2), some (.inl x3), some (.inl x4), some (.inl x5), some (.inl x6), some (.inl y0), none], [.inl x2, .inr (some (16, 0))], (zu S 1600 0 j1 (vp_nar .short x5.toInt16.toInt32), d))) rfl ?_
  exact zwp_call rfl h
theorem w91_138 {S : zS} {d : Nat} {Q : zO → zT → Prop} {x1 : Int32} {x2 : Int32} {x3 : Int32} {x4 : Int32} {x5 : Int32} {x6 : Int32} {x7 : Int32} (h : zwp 88 (0, zent 88 [.inr (some (16, 0)), .inl (nI 5), .inl x2], [], (S, d)) (zaf 91 144 [some (.inr (some (16, 0))), some (.inl x1), some (.inl x2), some (.inl x3), some (.inl x4), some (.inl x5), some (.inl x6), some (.inl x7), none] [] Q)) : zwp 91 (138, [some (.inr (some (16, 0))), some (.inl x1), some (.inl x2), some (.inl x3), some (.inl x4), some (.inl x5), some (.inl x6), some (.inl x7), none], [], (S, d)) Q := by
  refine zwp_blk 3 (c' := (141, [some (.inr (some (16, 0))), some (.inl x1), some (.inl x2), some (.inl x3), some (.inl x4), some (.inl x5), some (.inl x6), some (.inl x7), none], [.inl x2, .inl (nI 5), .inr (some (16, 0))], (S, d))) rfl ?_
  exact zwp_call rfl h
theorem w91_144 {S : zS} {d : Nat} {Q : zO → zT → Prop} {x1 : Int32} {x2 : Int32} {x3 : Int32} {x4 : Int32} {x5 : Int32} {x6 : Int32} {x7 : Int32} {y0 : Int32} (h : ∃ j1 : Nat, y0 = nI j1 ∧ j1 < 1300 ∧ (∃ j2 : Nat, y0 = nI j2 ∧ j2 < 1300 ∧ (∃ j3 : Nat, y0 = nI j3 ∧ j3 < 1300 ∧ (∃ j4 : Nat, y0 = nI j4 ∧ j4 < 1300 ∧ ((x4 ≤ x3 → Q (.inl (some (.inl x6))) (zu (zu (zu (zu S 1600 0 j1 (vp_nar .short x5.toInt16.toInt32)) 1280 0 j2 (vp_nar .byte x4.toInt8.toInt32)) 1344 0 j3 x6) 1472 0 j4 x1, d)) ∧ (¬ x4 ≤ x3 → Q (.inl (some (.inl x1))) (zu (zu (zu (zu S 1600 0 j1 (vp_nar .short x5.toInt16.toInt32)) 1280 0 j2 (vp_nar .byte x4.toInt8.toInt32)) 1344 0 j3 x6) 1472 0 j4 x1, d))))))) : zwp 91 (144, [some (.inr (some (16, 0))), some (.inl x1), some (.inl x2), some (.inl x3), some (.inl x4), some (.inl x5), some (.inl x6), some (.inl x7), none], [.inl y0], (S, d)) Q := by
  refine zwp_blk 6 (c' := (155, [some (.inr (some (16, 0))), some (.inl x1), some (.inl x2), some (.inl x3), some (.inl x4), some (.inl x5), some (.inl x6), some (.inl x7), some (.inl y0)], [.inl x5.toInt16.toInt32, .inl y0, .inr (some (25, 0))], (S, d))) rfl ?_
  obtain ⟨j1, ej1, lj1, h⟩ := h
  refine zwp_stx (n := 1300) (cd := 1600) (i := 0) (v := vp_nar .short x5.toInt16.toInt32) (pc' := 156) (ls := [some (.inr (some (16, 0))), some (.inl x1), some (.inl x2), some (.inl x3), some (.inl x4), some (.inl x5), some (.inl x6), some (.inl x7), some (.inl y0)]) (r := []) (t := (S, d)) rfl ej1 lj1 (by decide) ?_
  refine zwp_blk 5 (c' := (165, [some (.inr (some (16, 0))), some (.inl x1), some (.inl x2), some (.inl x3), some (.inl x4), some (.inl x5), some (.inl x6), some (.inl x7), some (.inl y0)], [.inl x4.toInt8.toInt32, .inl y0, .inr (some (20, 0))], (zu S 1600 0 j1 (vp_nar .short x5.toInt16.toInt32), d))) rfl ?_
  obtain ⟨j2, ej2, lj2, h⟩ := h
  refine zwp_stx (n := 1300) (cd := 1280) (i := 0) (v := vp_nar .byte x4.toInt8.toInt32) (pc' := 166) (ls := [some (.inr (some (16, 0))), some (.inl x1), some (.inl x2), some (.inl x3), some (.inl x4), some (.inl x5), some (.inl x6), some (.inl x7), some (.inl y0)]) (r := []) (t := (zu S 1600 0 j1 (vp_nar .short x5.toInt16.toInt32), d)) rfl ej2 lj2 (by decide) ?_
  refine zwp_blk 4 (c' := (174, [some (.inr (some (16, 0))), some (.inl x1), some (.inl x2), some (.inl x3), some (.inl x4), some (.inl x5), some (.inl x6), some (.inl x7), some (.inl y0)], [.inl x6, .inl y0, .inr (some (21, 0))], (zu (zu S 1600 0 j1 (vp_nar .short x5.toInt16.toInt32)) 1280 0 j2 (vp_nar .byte x4.toInt8.toInt32), d))) rfl ?_
  obtain ⟨j3, ej3, lj3, h⟩ := h
  refine zwp_stx (n := 1300) (cd := 1344) (i := 0) (v := x6) (pc' := 175) (ls := [some (.inr (some (16, 0))), some (.inl x1), some (.inl x2), some (.inl x3), some (.inl x4), some (.inl x5), some (.inl x6), some (.inl x7), some (.inl y0)]) (r := []) (t := (zu (zu S 1600 0 j1 (vp_nar .short x5.toInt16.toInt32)) 1280 0 j2 (vp_nar .byte x4.toInt8.toInt32), d)) rfl ej3 lj3 (by decide) ?_
  refine zwp_blk 4 (c' := (182, [some (.inr (some (16, 0))), some (.inl x1), some (.inl x2), some (.inl x3), some (.inl x4), some (.inl x5), some (.inl x6), some (.inl x7), some (.inl y0)], [.inl x1, .inl y0, .inr (some (23, 0))], (zu (zu (zu S 1600 0 j1 (vp_nar .short x5.toInt16.toInt32)) 1280 0 j2 (vp_nar .byte x4.toInt8.toInt32)) 1344 0 j3 x6, d))) rfl ?_
  obtain ⟨j4, ej4, lj4, h⟩ := h
  refine zwp_stx (n := 1300) (cd := 1472) (i := 0) (v := x1) (pc' := 183) (ls := [some (.inr (some (16, 0))), some (.inl x1), some (.inl x2), some (.inl x3), some (.inl x4), some (.inl x5), some (.inl x6), some (.inl x7), some (.inl y0)]) (r := []) (t := (zu (zu (zu S 1600 0 j1 (vp_nar .short x5.toInt16.toInt32)) 1280 0 j2 (vp_nar .byte x4.toInt8.toInt32)) 1344 0 j3 x6, d)) rfl ej4 lj4 (by decide) ?_
  refine zwp_blk 2 (c' := (186, [some (.inr (some (16, 0))), some (.inl x1), some (.inl x2), some (.inl x3), some (.inl x4), some (.inl x5), some (.inl x6), some (.inl x7), some (.inl y0)], [.inl x4, .inl x3], (zu (zu (zu (zu S 1600 0 j1 (vp_nar .short x5.toInt16.toInt32)) 1280 0 j2 (vp_nar .byte x4.toInt8.toInt32)) 1344 0 j3 x6) 1472 0 j4 x1, d))) rfl ?_
  refine zwp_br rfl (fun hb => ?_) (fun hb => ?_)
  · show zwp 91 (193, [some (.inr (some (16, 0))), some (.inl x1), some (.inl x2), some (.inl x3), some (.inl x4), some (.inl x5), some (.inl x6), some (.inl x7), some (.inl y0)], [], (zu (zu (zu (zu S 1600 0 j1 (vp_nar .short x5.toInt16.toInt32)) 1280 0 j2 (vp_nar .byte x4.toInt8.toInt32)) 1344 0 j3 x6) 1472 0 j4 x1, d)) Q
    replace h := h.1 (of_decide_eq_true hb)
    refine zwp_blk 1 (c' := (195, [some (.inr (some (16, 0))), some (.inl x1), some (.inl x2), some (.inl x3), some (.inl x4), some (.inl x5), some (.inl x6), some (.inl x7), some (.inl y0)], [.inl x6], (zu (zu (zu (zu S 1600 0 j1 (vp_nar .short x5.toInt16.toInt32)) 1280 0 j2 (vp_nar .byte x4.toInt8.toInt32)) 1344 0 j3 x6) 1472 0 j4 x1, d))) rfl ?_
    exact zwp_end rfl h
  · show zwp 91 (189, [some (.inr (some (16, 0))), some (.inl x1), some (.inl x2), some (.inl x3), some (.inl x4), some (.inl x5), some (.inl x6), some (.inl x7), some (.inl y0)], [], (zu (zu (zu (zu S 1600 0 j1 (vp_nar .short x5.toInt16.toInt32)) 1280 0 j2 (vp_nar .byte x4.toInt8.toInt32)) 1344 0 j3 x6) 1472 0 j4 x1, d)) Q
    replace h := h.2 (of_decide_eq_false hb)
    refine zwp_blk 2 (c' := (195, [some (.inr (some (16, 0))), some (.inl x1), some (.inl x2), some (.inl x3), some (.inl x4), some (.inl x5), some (.inl x6), some (.inl x7), some (.inl y0)], [.inl x1], (zu (zu (zu (zu S 1600 0 j1 (vp_nar .short x5.toInt16.toInt32)) 1280 0 j2 (vp_nar .byte x4.toInt8.toInt32)) 1344 0 j3 x6) 1472 0 j4 x1, d))) rfl ?_
    exact zwp_end rfl h
-- 92 PageKeeperModel.childFor
theorem w92_0 {S : zS} {d : Nat} {Q : zO → zT → Prop} {x1 : Int32} (h : zwp 92 (2, [some (.inr (some (16, 0))), some (.inl x1), some (.inl (nI 0))], [], (S, d)) Q) : zwp 92 (0, [some (.inr (some (16, 0))), some (.inl x1), none], [], (S, d)) Q := by
  refine zwp_blk 2 (c' := (2, [some (.inr (some (16, 0))), some (.inl x1), some (.inl (nI 0))], [], (S, d))) rfl ?_
  exact h
theorem w92_2 {S : zS} {d : Nat} {Q : zO → zT → Prop} {x1 : Int32} {x2 : Int32} (h : ((S 1049 0 0) ≤ (x2 + (nI 1)) → ∃ j1 : Nat, x2 = nI j1 ∧ j1 < 6 ∧ (Q (.inl (some (.inl (S 1984 0 j1)))) (S, d))) ∧ (¬ (S 1049 0 0) ≤ (x2 + (nI 1)) → ∃ j2 : Nat, x2 = nI j2 ∧ j2 < 6 ∧ ((x1 < (S 2048 0 j2) → ∃ j3 : Nat, x2 = nI j3 ∧ j3 < 6 ∧ (Q (.inl (some (.inl (S 1984 0 j3)))) (S, d))) ∧ (¬ x1 < (S 2048 0 j2) → zwp 92 (2, [some (.inr (some (16, 0))), some (.inl x1), some (.inl (x2 + nI 1))], [], (S, d)) Q)))) : zwp 92 (2, [some (.inr (some (16, 0))), some (.inl x1), some (.inl x2)], [], (S, d)) Q := by
  refine zwp_blk 5 (c' := (9, [some (.inr (some (16, 0))), some (.inl x1), some (.inl x2)], [.inl (S 1049 0 0), .inl (x2 + (nI 1))], (S, d))) rfl ?_
  refine zwp_br rfl (fun hb => ?_) (fun hb => ?_)
  · show zwp 92 (28, [some (.inr (some (16, 0))), some (.inl x1), some (.inl x2)], [], (S, d)) Q
    replace h := h.1 (of_decide_eq_true hb)
    refine zwp_blk 3 (c' := (33, [some (.inr (some (16, 0))), some (.inl x1), some (.inl x2)], [.inl x2, .inr (some (31, 0))], (S, d))) rfl ?_
    obtain ⟨j1, ej1, lj1, h⟩ := h
    refine zwp_ldx (n := 6) (cd := 1984) (i := 0) (pc' := 34) (ls := [some (.inr (some (16, 0))), some (.inl x1), some (.inl x2)]) (r := []) (t := (S, d)) rfl ej1 lj1 (by decide) ?_
    exact zwp_end rfl h
  · show zwp 92 (12, [some (.inr (some (16, 0))), some (.inl x1), some (.inl x2)], [], (S, d)) Q
    replace h := h.2 (of_decide_eq_false hb)
    refine zwp_blk 3 (c' := (17, [some (.inr (some (16, 0))), some (.inl x1), some (.inl x2)], [.inl x2, .inr (some (32, 0))], (S, d))) rfl ?_
    obtain ⟨j2, ej2, lj2, h⟩ := h
    refine zwp_ldx (n := 6) (cd := 2048) (i := 0) (pc' := 18) (ls := [some (.inr (some (16, 0))), some (.inl x1), some (.inl x2)]) (r := []) (t := (S, d)) rfl ej2 lj2 (by decide) ?_
    refine zwp_blk 1 (c' := (19, [some (.inr (some (16, 0))), some (.inl x1), some (.inl x2)], [.inl x1, .inl (S 2048 0 j2)], (S, d))) rfl ?_
    refine zwp_br rfl (fun hb => ?_) (fun hb => ?_)
    · show zwp 92 (28, [some (.inr (some (16, 0))), some (.inl x1), some (.inl x2)], [], (S, d)) Q
      replace h := h.1 (of_decide_eq_true hb)
      refine zwp_blk 3 (c' := (33, [some (.inr (some (16, 0))), some (.inl x1), some (.inl x2)], [.inl x2, .inr (some (31, 0))], (S, d))) rfl ?_
      obtain ⟨j3, ej3, lj3, h⟩ := h
      refine zwp_ldx (n := 6) (cd := 1984) (i := 0) (pc' := 34) (ls := [some (.inr (some (16, 0))), some (.inl x1), some (.inl x2)]) (r := []) (t := (S, d)) rfl ej3 lj3 (by decide) ?_
      exact zwp_end rfl h
    · show zwp 92 (22, [some (.inr (some (16, 0))), some (.inl x1), some (.inl x2)], [], (S, d)) Q
      replace h := h.2 (of_decide_eq_false hb)
      refine zwp_blk 2 (c' := (2, [some (.inr (some (16, 0))), some (.inl x1), some (.inl (x2 + nI 1))], [], (S, d))) rfl ?_
      exact h
-- 93 PageKeeperModel.down
theorem w93_0 {S : zS} {d : Nat} {Q : zO → zT → Prop} {x1 : Int32} (h : zwp 86 (0, zent 86 [.inr (some (16, 0)), .inl (nI 0)], [], (S, d)) (zaf 93 7 [some (.inr (some (16, 0))), some (.inl x1), some (.inl (nI 0))] [] Q)) : zwp 93 (0, [some (.inr (some (16, 0))), some (.inl x1), none], [], (S, d)) Q := by
  refine zwp_blk 4 (c' := (4, [some (.inr (some (16, 0))), some (.inl x1), some (.inl (nI 0))], [.inl (nI 0), .inr (some (16, 0))], (S, d))) rfl ?_
  exact zwp_call rfl h
theorem w93_7 {S : zS} {d : Nat} {Q : zO → zT → Prop} {x1 : Int32} {x2 : Int32} (h : zwp 79 (0, zent 79 [.inr (some (16, 0)), .inl x2], [], (S, d)) (zaf 93 12 [some (.inr (some (16, 0))), some (.inl x1), some (.inl x2)] [] Q)) : zwp 93 (7, [some (.inr (some (16, 0))), some (.inl x1), some (.inl x2)], [], (S, d)) Q := by
  refine zwp_blk 2 (c' := (9, [some (.inr (some (16, 0))), some (.inl x1), some (.inl x2)], [.inl x2, .inr (some (16, 0))], (S, d))) rfl ?_
  exact zwp_call rfl h
theorem w93_12 {S : zS} {d : Nat} {Q : zO → zT → Prop} {x1 : Int32} {x2 : Int32} (h : ((S 1048 0 0) = 0 → Q (.inl (some (.inl x2))) (S, d)) ∧ (¬ (S 1048 0 0) = 0 → zwp 92 (0, zent 92 [.inr (some (16, 0)), .inl x1], [], (S, d)) (zaf 93 24 [some (.inr (some (16, 0))), some (.inl x1), some (.inl x2)] [] Q))) : zwp 93 (12, [some (.inr (some (16, 0))), some (.inl x1), some (.inl x2)], [], (S, d)) Q := by
  refine zwp_blk 2 (c' := (16, [some (.inr (some (16, 0))), some (.inl x1), some (.inl x2)], [.inl (S 1048 0 0)], (S, d))) rfl ?_
  refine zwp_br rfl (fun hb => ?_) (fun hb => ?_)
  · show zwp 93 (38, [some (.inr (some (16, 0))), some (.inl x1), some (.inl x2)], [], (S, d)) Q
    replace h := h.1 (of_decide_eq_true hb)
    refine zwp_blk 1 (c' := (39, [some (.inr (some (16, 0))), some (.inl x1), some (.inl x2)], [.inl x2], (S, d))) rfl ?_
    exact zwp_end rfl h
  · show zwp 93 (19, [some (.inr (some (16, 0))), some (.inl x1), some (.inl x2)], [], (S, d)) Q
    replace h := h.2 (of_decide_eq_false hb)
    refine zwp_blk 2 (c' := (21, [some (.inr (some (16, 0))), some (.inl x1), some (.inl x2)], [.inl x1, .inr (some (16, 0))], (S, d))) rfl ?_
    exact zwp_call rfl h
theorem w93_24 {S : zS} {d : Nat} {Q : zO → zT → Prop} {x1 : Int32} {x2 : Int32} {y0 : Int32} (h : zwp 86 (0, zent 86 [.inr (some (16, 0)), .inl y0], [], (S, d)) (zaf 93 30 [some (.inr (some (16, 0))), some (.inl x1), some (.inl y0)] [] Q)) : zwp 93 (24, [some (.inr (some (16, 0))), some (.inl x1), some (.inl x2)], [.inl y0], (S, d)) Q := by
  refine zwp_blk 3 (c' := (27, [some (.inr (some (16, 0))), some (.inl x1), some (.inl y0)], [.inl y0, .inr (some (16, 0))], (S, d))) rfl ?_
  exact zwp_call rfl h
theorem w93_30 {S : zS} {d : Nat} {Q : zO → zT → Prop} {x1 : Int32} {x2 : Int32} (h : zwp 79 (0, zent 79 [.inr (some (16, 0)), .inl x2], [], (S, d)) (zaf 93 35 [some (.inr (some (16, 0))), some (.inl x1), some (.inl x2)] [] Q)) : zwp 93 (30, [some (.inr (some (16, 0))), some (.inl x1), some (.inl x2)], [], (S, d)) Q := by
  refine zwp_blk 2 (c' := (32, [some (.inr (some (16, 0))), some (.inl x1), some (.inl x2)], [.inl x2, .inr (some (16, 0))], (S, d))) rfl ?_
  exact zwp_call rfl h
theorem w93_35 {S : zS} {d : Nat} {Q : zO → zT → Prop} {x1 : Int32} {x2 : Int32} (h : zwp 93 (12, [some (.inr (some (16, 0))), some (.inl x1), some (.inl x2)], [], (S, d)) Q) : zwp 93 (35, [some (.inr (some (16, 0))), some (.inl x1), some (.inl x2)], [], (S, d)) Q := by
  refine zwp_blk 1 (c' := (12, [some (.inr (some (16, 0))), some (.inl x1), some (.inl x2)], [], (S, d))) rfl ?_
  exact h
-- 94 PageKeeperModel.change
theorem w94_0 {S : zS} {d : Nat} {Q : zO → zT → Prop} {x1 : Int32} {x2 : Int32} {x3 : Int32} {x4 : Int32} {x5 : Int32} (h : zwp 86 (0, zent 86 [.inr (some (16, 0)), .inl x2], [], (S, d)) (zaf 94 5 [some (.inr (some (16, 0))), some (.inl x1), some (.inl x2), some (.inl x3), some (.inl x4), some (.inl x5), none, none] [] Q)) : zwp 94 (0, [some (.inr (some (16, 0))), some (.inl x1), some (.inl x2), some (.inl x3), some (.inl x4), some (.inl x5), none, none], [], (S, d)) Q := by
  refine zwp_blk 2 (c' := (2, [some (.inr (some (16, 0))), some (.inl x1), some (.inl x2), some (.inl x3), some (.inl x4), some (.inl x5), none, none], [.inl x2, .inr (some (16, 0))], (S, d))) rfl ?_
  exact zwp_call rfl h
theorem w94_5 {S : zS} {d : Nat} {Q : zO → zT → Prop} {x1 : Int32} {x2 : Int32} {x3 : Int32} {x4 : Int32} {x5 : Int32} (h : zwp 79 (0, zent 79 [.inr (some (16, 0)), .inl x2], [], (S, d)) (zaf 94 10 [some (.inr (some (16, 0))), some (.inl x1), some (.inl x2), some (.inl x3), some (.inl x4), some (.inl x5), none, none] [] Q)) : zwp 94 (5, [some (.inr (some (16, 0))), some (.inl x1), some (.inl x2), some (.inl x3), some (.inl x4), some (.inl x5), none, none], [], (S, d)) Q := by
  refine zwp_blk 2 (c' := (7, [some (.inr (some (16, 0))), some (.inl x1), some (.inl x2), some (.inl x3), some (.inl x4), some (.inl x5), none, none], [.inl x2, .inr (some (16, 0))], (S, d))) rfl ?_
  exact zwp_call rfl h
theorem w94_10 {S : zS} {d : Nat} {Q : zO → zT → Prop} {x1 : Int32} {x2 : Int32} {x3 : Int32} {x4 : Int32} {x5 : Int32} (h : zwp 82 (0, zent 82 [.inr (some (16, 0)), .inl x3], [], (S, d)) (zaf 94 15 [some (.inr (some (16, 0))), some (.inl x1), some (.inl x2), some (.inl x3), some (.inl x4), some (.inl x5), none, none] [] Q)) : zwp 94 (10, [some (.inr (some (16, 0))), some (.inl x1), some (.inl x2), some (.inl x3), some (.inl x4), some (.inl x5), none, none], [], (S, d)) Q := by
  refine zwp_blk 2 (c' := (12, [some (.inr (some (16, 0))), some (.inl x1), some (.inl x2), some (.inl x3), some (.inl x4), some (.inl x5), none, none], [.inl x3, .inr (some (16, 0))], (S, d))) rfl ?_
  exact zwp_call rfl h
theorem w94_15 {S : zS} {d : Nat} {Q : zO → zT → Prop} {x1 : Int32} {x2 : Int32} {x3 : Int32} {x4 : Int32} {x5 : Int32} {y0 : Int32} (h : zwp 88 (0, zent 88 [.inr (some (16, 0)), .inl x1, .inl x2], [], (S, d)) (zaf 94 23 [some (.inr (some (16, 0))), some (.inl x1), some (.inl x2), some (.inl x3), some (.inl x4), some (.inl x5), some (.inl y0), none] [] Q)) : zwp 94 (15, [some (.inr (some (16, 0))), some (.inl x1), some (.inl x2), some (.inl x3), some (.inl x4), some (.inl x5), none, none], [.inl y0], (S, d)) Q := by
  refine zwp_blk 4 (c' := (20, [some (.inr (some (16, 0))), some (.inl x1), some (.inl x2), some (.inl x3), some (.inl x4), some (.inl x5), some (.inl y0), none], [.inl x2, .inl x1, .inr (some (16, 0))], (S, d))) rfl ?_
  exact zwp_call rfl h
theorem w94_23 {S : zS} {d : Nat} {Q : zO → zT → Prop} {x1 : Int32} {x2 : Int32} {x3 : Int32} {x4 : Int32} {x5 : Int32} {x6 : Int32} {y0 : Int32} (h : ∃ j1 : Nat, y0 = nI j1 ∧ j1 < 1300 ∧ (∃ j2 : Nat, y0 = nI j2 ∧ j2 < 1300 ∧ (∃ j3 : Nat, y0 = nI j3 ∧ j3 < 1300 ∧ ((x6 < 0 → zwp 94 (69, [some (.inr (some (16, 0))), some (.inl x1), some (.inl x2), some (.inl x3), some (.inl x4), some (.inl x5), some (.inl x6), some (.inl y0)], [.inl (nI 0), .inl y0, .inr (some (22, 0))], (zu (zu (zu S 1216 0 j1 (vp_nar .short x5.toInt16.toInt32)) 1280 0 j2 (vp_nar .byte x3.toInt8.toInt32)) 1344 0 j3 x4, d)) Q) ∧ (¬ x6 < 0 → zwp 94 (69, [some (.inr (some (16, 0))), some (.inl x1), some (.inl x2), some (.inl x3), some (.inl x4), some (.inl x5), some (.inl x6), some (.inl y0)], [.inl (nI 1), .inl y0, .inr (some (22, 0))], (zu (zu (zu S 1216 0 j1 (vp_nar .short x5.toInt16.toInt32)) 1280 0 j2 (vp_nar .byte x3.toInt8.toInt32)) 1344 0 j3 x4, d)) Q))))) : zwp 94 (23, [some (.inr (some (16, 0))), some (.inl x1), some (.inl x2), some (.inl x3), some (.inl x4), some (.inl x5), some (.inl x6), none], [.inl y0], (S, d)) Q := by
  refine zwp_blk 6 (c' := (34, [some (.inr (some (16, 0))), some (.inl x1), some (.inl x2), some (.inl x3), some (.inl x4), some (.inl x5), some (.inl x6), some (.inl y0)], [.inl x5.toInt16.toInt32, .inl y0, .inr (some (19, 0))], (S, d))) rfl ?_
  obtain ⟨j1, ej1, lj1, h⟩ := h
  refine zwp_stx (n := 1300) (cd := 1216) (i := 0) (v := vp_nar .short x5.toInt16.toInt32) (pc' := 35) (ls := [some (.inr (some (16, 0))), some (.inl x1), some (.inl x2), some (.inl x3), some (.inl x4), some (.inl x5), some (.inl x6), some (.inl y0)]) (r := []) (t := (S, d)) rfl ej1 lj1 (by decide) ?_
  refine zwp_blk 5 (c' := (43, [some (.inr (some (16, 0))), some (.inl x1), some (.inl x2), some (.inl x3), some (.inl x4), some (.inl x5), some (.inl x6), some (.inl y0)], [.inl x3.toInt8.toInt32, .inl y0, .inr (some (20, 0))], (zu S 1216 0 j1 (vp_nar .short x5.toInt16.toInt32), d))) rfl ?_
  obtain ⟨j2, ej2, lj2, h⟩ := h
  refine zwp_stx (n := 1300) (cd := 1280) (i := 0) (v := vp_nar .byte x3.toInt8.toInt32) (pc' := 44) (ls := [some (.inr (some (16, 0))), some (.inl x1), some (.inl x2), some (.inl x3), some (.inl x4), some (.inl x5), some (.inl x6), some (.inl y0)]) (r := []) (t := (zu S 1216 0 j1 (vp_nar .short x5.toInt16.toInt32), d)) rfl ej2 lj2 (by decide) ?_
  refine zwp_blk 4 (c' := (52, [some (.inr (some (16, 0))), some (.inl x1), some (.inl x2), some (.inl x3), some (.inl x4), some (.inl x5), some (.inl x6), some (.inl y0)], [.inl x4, .inl y0, .inr (some (21, 0))], (zu (zu S 1216 0 j1 (vp_nar .short x5.toInt16.toInt32)) 1280 0 j2 (vp_nar .byte x3.toInt8.toInt32), d))) rfl ?_
  obtain ⟨j3, ej3, lj3, h⟩ := h
  refine zwp_stx (n := 1300) (cd := 1344) (i := 0) (v := x4) (pc' := 53) (ls := [some (.inr (some (16, 0))), some (.inl x1), some (.inl x2), some (.inl x3), some (.inl x4), some (.inl x5), some (.inl x6), some (.inl y0)]) (r := []) (t := (zu (zu S 1216 0 j1 (vp_nar .short x5.toInt16.toInt32)) 1280 0 j2 (vp_nar .byte x3.toInt8.toInt32), d)) rfl ej3 lj3 (by decide) ?_
  refine zwp_blk 4 (c' := (61, [some (.inr (some (16, 0))), some (.inl x1), some (.inl x2), some (.inl x3), some (.inl x4), some (.inl x5), some (.inl x6), some (.inl y0)], [.inl x6, .inl y0, .inr (some (22, 0))], (zu (zu (zu S 1216 0 j1 (vp_nar .short x5.toInt16.toInt32)) 1280 0 j2 (vp_nar .byte x3.toInt8.toInt32)) 1344 0 j3 x4, d))) rfl ?_
  refine zwp_br rfl (fun hb => ?_) (fun hb => ?_)
  · show zwp 94 (68, [some (.inr (some (16, 0))), some (.inl x1), some (.inl x2), some (.inl x3), some (.inl x4), some (.inl x5), some (.inl x6), some (.inl y0)], [.inl y0, .inr (some (22, 0))], (zu (zu (zu S 1216 0 j1 (vp_nar .short x5.toInt16.toInt32)) 1280 0 j2 (vp_nar .byte x3.toInt8.toInt32)) 1344 0 j3 x4, d)) Q
    replace h := h.1 (of_decide_eq_true hb)
    refine zwp_blk 1 (c' := (69, [some (.inr (some (16, 0))), some (.inl x1), some (.inl x2), some (.inl x3), some (.inl x4), some (.inl x5), some (.inl x6), some (.inl y0)], [.inl (nI 0), .inl y0, .inr (some (22, 0))], (zu (zu (zu S 1216 0 j1 (vp_nar .short x5.toInt16.toInt32)) 1280 0 j2 (vp_nar .byte x3.toInt8.toInt32)) 1344 0 j3 x4, d))) rfl ?_
    exact h
  · show zwp 94 (64, [some (.inr (some (16, 0))), some (.inl x1), some (.inl x2), some (.inl x3), some (.inl x4), some (.inl x5), some (.inl x6), some (.inl y0)], [.inl y0, .inr (some (22, 0))], (zu (zu (zu S 1216 0 j1 (vp_nar .short x5.toInt16.toInt32)) 1280 0 j2 (vp_nar .byte x3.toInt8.toInt32)) 1344 0 j3 x4, d)) Q
    replace h := h.2 (of_decide_eq_false hb)
    refine zwp_blk 2 (c' := (69, [some (.inr (some (16, 0))), some (.inl x1), some (.inl x2), some (.inl x3), some (.inl x4), some (.inl x5), some (.inl x6), some (.inl y0)], [.inl (nI 1), .inl y0, .inr (some (22, 0))], (zu (zu (zu S 1216 0 j1 (vp_nar .short x5.toInt16.toInt32)) 1280 0 j2 (vp_nar .byte x3.toInt8.toInt32)) 1344 0 j3 x4, d))) rfl ?_
    exact h
theorem w94_69 {S : zS} {d : Nat} {Q : zO → zT → Prop} {x1 : Int32} {x2 : Int32} {x3 : Int32} {x4 : Int32} {x5 : Int32} {x6 : Int32} {x7 : Int32} {y0 : Int32} {y1 : Int32} (h : ∃ j1 : Nat, y1 = nI j1 ∧ j1 < 1300 ∧ ((x6 < 0 → zwp 94 (92, [some (.inr (some (16, 0))), some (.inl x1), some (.inl x2), some (.inl x3), some (.inl x4), some (.inl x5), some (.inl x6), some (.inl x7)], [.inl (nI 0), .inl x7, .inr (some (23, 0))], (zu S 1408 0 j1 (vp_nar .boolean y0), d)) Q) ∧ (¬ x6 < 0 → ∃ j2 : Nat, x6 = nI j2 ∧ j2 < 6 ∧ (zwp 94 (92, [some (.inr (some (16, 0))), some (.inl x1), some (.inl x2), some (.inl x3), some (.inl x4), some (.inl x5), some (.inl x6), some (.inl x7)], [.inl (S 2048 0 j2), .inl x7, .inr (some (23, 0))], (zu S 1408 0 j1 (vp_nar .boolean y0), d)) Q)))) : zwp 94 (69, [some (.inr (some (16, 0))), some (.inl x1), some (.inl x2), some (.inl x3), some (.inl x4), some (.inl x5), some (.inl x6), some (.inl x7)], [.inl y0, .inl y1, .inr (some (22, 0))], (S, d)) Q := by
  obtain ⟨j1, ej1, lj1, h⟩ := h
  refine zwp_stx (n := 1300) (cd := 1408) (i := 0) (v := vp_nar .boolean y0) (pc' := 70) (ls := [some (.inr (some (16, 0))), some (.inl x1), some (.inl x2), some (.inl x3), some (.inl x4), some (.inl x5), some (.inl x6), some (.inl x7)]) (r := []) (t := (S, d)) rfl ej1 lj1 (by decide) ?_
  refine zwp_blk 4 (c' := (78, [some (.inr (some (16, 0))), some (.inl x1), some (.inl x2), some (.inl x3), some (.inl x4), some (.inl x5), some (.inl x6), some (.inl x7)], [.inl x6, .inl x7, .inr (some (23, 0))], (zu S 1408 0 j1 (vp_nar .boolean y0), d))) rfl ?_
  refine zwp_br rfl (fun hb => ?_) (fun hb => ?_)
  · show zwp 94 (91, [some (.inr (some (16, 0))), some (.inl x1), some (.inl x2), some (.inl x3), some (.inl x4), some (.inl x5), some (.inl x6), some (.inl x7)], [.inl x7, .inr (some (23, 0))], (zu S 1408 0 j1 (vp_nar .boolean y0), d)) Q
    replace h := h.1 (of_decide_eq_true hb)
    refine zwp_blk 1 (c' := (92, [some (.inr (some (16, 0))), some (.inl x1), some (.inl x2), some (.inl x3), some (.inl x4), some (.inl x5), some (.inl x6), some (.inl x7)], [.inl (nI 0), .inl x7, .inr (some (23, 0))], (zu S 1408 0 j1 (vp_nar .boolean y0), d))) rfl ?_
    exact h
  · show zwp 94 (81, [some (.inr (some (16, 0))), some (.inl x1), some (.inl x2), some (.inl x3), some (.inl x4), some (.inl x5), some (.inl x6), some (.inl x7)], [.inl x7, .inr (some (23, 0))], (zu S 1408 0 j1 (vp_nar .boolean y0), d)) Q
    replace h := h.2 (of_decide_eq_false hb)
    refine zwp_blk 3 (c' := (87, [some (.inr (some (16, 0))), some (.inl x1), some (.inl x2), some (.inl x3), some (.inl x4), some (.inl x5), some (.inl x6), some (.inl x7)], [.inl x6, .inr (some (32, 0)), .inl x7, .inr (some (23, 0))], (zu S 1408 0 j1 (vp_nar .boolean y0), d))) rfl ?_
    obtain ⟨j2, ej2, lj2, h⟩ := h
    refine zwp_ldx (n := 6) (cd := 2048) (i := 0) (pc' := 88) (ls := [some (.inr (some (16, 0))), some (.inl x1), some (.inl x2), some (.inl x3), some (.inl x4), some (.inl x5), some (.inl x6), some (.inl x7)]) (r := [.inl x7, .inr (some (23, 0))]) (t := (zu S 1408 0 j1 (vp_nar .boolean y0), d)) rfl ej2 lj2 (by decide) ?_
    refine zwp_blk 1 (c' := (92, [some (.inr (some (16, 0))), some (.inl x1), some (.inl x2), some (.inl x3), some (.inl x4), some (.inl x5), some (.inl x6), some (.inl x7)], [.inl (S 2048 0 j2), .inl x7, .inr (some (23, 0))], (zu S 1408 0 j1 (vp_nar .boolean y0), d))) rfl ?_
    exact h
theorem w94_92 {S : zS} {d : Nat} {Q : zO → zT → Prop} {x1 : Int32} {x2 : Int32} {x3 : Int32} {x4 : Int32} {x5 : Int32} {x6 : Int32} {x7 : Int32} {y0 : Int32} {y1 : Int32} (h : ∃ j1 : Nat, y1 = nI j1 ∧ j1 < 1300 ∧ (∃ j2 : Nat, x7 = nI j2 ∧ j2 < 1300 ∧ (Q (.inl none) (zu (zu S 1472 0 j1 y0) 1536 0 j2 (vp_nar .short ((S 1054 0 0).toInt16.toInt32)), d)))) : zwp 94 (92, [some (.inr (some (16, 0))), some (.inl x1), some (.inl x2), some (.inl x3), some (.inl x4), some (.inl x5), some (.inl x6), some (.inl x7)], [.inl y0, .inl y1, .inr (some (23, 0))], (S, d)) Q := by
  obtain ⟨j1, ej1, lj1, h⟩ := h
  refine zwp_stx (n := 1300) (cd := 1472) (i := 0) (v := y0) (pc' := 93) (ls := [some (.inr (some (16, 0))), some (.inl x1), some (.inl x2), some (.inl x3), some (.inl x4), some (.inl x5), some (.inl x6), some (.inl x7)]) (r := []) (t := (S, d)) rfl ej1 lj1 (by decide) ?_
  refine zwp_blk 6 (c' := (104, [some (.inr (some (16, 0))), some (.inl x1), some (.inl x2), some (.inl x3), some (.inl x4), some (.inl x5), some (.inl x6), some (.inl x7)], [.inl ((S 1054 0 0).toInt16.toInt32), .inl x7, .inr (some (24, 0))], (zu S 1472 0 j1 y0, d))) rfl ?_
  obtain ⟨j2, ej2, lj2, h⟩ := h
  refine zwp_stx (n := 1300) (cd := 1536) (i := 0) (v := vp_nar .short ((S 1054 0 0).toInt16.toInt32)) (pc' := 105) (ls := [some (.inr (some (16, 0))), some (.inl x1), some (.inl x2), some (.inl x3), some (.inl x4), some (.inl x5), some (.inl x6), some (.inl x7)]) (r := []) (t := (zu S 1472 0 j1 y0, d)) rfl ej2 lj2 (by decide) ?_
  exact zwp_end rfl h
-- 95 PageKeeperModel.place
theorem w95_0 {S : zS} {d : Nat} {Q : zO → zT → Prop} {x1 : Int32} {x2 : Int32} {x3 : Int32} (h : zwp 93 (0, zent 93 [.inr (some (16, 0)), .inl x1], [], (S, d)) (zaf 95 8 [some (.inr (some (16, 0))), some (.inl x1), some (.inl x2), some (.inl x3), some (.inl (nI 0)), none, none, none] [] Q)) : zwp 95 (0, [some (.inr (some (16, 0))), some (.inl x1), some (.inl x2), some (.inl x3), none, none, none, none], [], (S, d)) Q := by
  refine zwp_blk 4 (c' := (5, [some (.inr (some (16, 0))), some (.inl x1), some (.inl x2), some (.inl x3), some (.inl (nI 0)), none, none, none], [.inl x1, .inr (some (16, 0))], (S, d))) rfl ?_
  exact zwp_call rfl h
theorem w95_8 {S : zS} {d : Nat} {Q : zO → zT → Prop} {x1 : Int32} {x2 : Int32} {x3 : Int32} {x4 : Int32} {y0 : Int32} (h : zwp 82 (0, zent 82 [.inr (some (16, 0)), .inl x1], [], (S, d)) (zaf 95 15 [some (.inr (some (16, 0))), some (.inl x1), some (.inl x2), some (.inl x3), some (.inl x4), some (.inl y0), none, none] [] Q)) : zwp 95 (8, [some (.inr (some (16, 0))), some (.inl x1), some (.inl x2), some (.inl x3), some (.inl x4), none, none, none], [.inl y0], (S, d)) Q := by
  refine zwp_blk 3 (c' := (12, [some (.inr (some (16, 0))), some (.inl x1), some (.inl x2), some (.inl x3), some (.inl x4), some (.inl y0), none, none], [.inl x1, .inr (some (16, 0))], (S, d))) rfl ?_
  exact zwp_call rfl h
theorem w95_15 {S : zS} {d : Nat} {Q : zO → zT → Prop} {x1 : Int32} {x2 : Int32} {x3 : Int32} {x4 : Int32} {x5 : Int32} {y0 : Int32} (h : (0 ≤ y0 → zwp 94 (0, zent 94 [.inr (some (16, 0)), .inl (nI 1), .inl x5, .inl x1, .inl x2, .inl x3], [], (S, d)) (zaf 95 125 [some (.inr (some (16, 0))), some (.inl x1), some (.inl x2), some (.inl x3), some (.inl x4), some (.inl x5), none, none] [] Q)) ∧ (¬ 0 ≤ y0 → zwp 86 (0, zent 86 [.inr (some (16, 0)), .inl (nI 0)], [], (S, d)) (zaf 95 30 [some (.inr (some (16, 0))), some (.inl x1), some (.inl x2), some (.inl x3), some (.inl x4), some (.inl (nI 0)), some (.inl (nI 0)), none] [] Q))) : zwp 95 (15, [some (.inr (some (16, 0))), some (.inl x1), some (.inl x2), some (.inl x3), some (.inl x4), some (.inl x5), none, none], [.inl y0], (S, d)) Q := by
  refine zwp_br rfl (fun hb => ?_) (fun hb => ?_)
  · show zwp 95 (115, [some (.inr (some (16, 0))), some (.inl x1), some (.inl x2), some (.inl x3), some (.inl x4), some (.inl x5), none, none], [], (S, d)) Q
    replace h := h.1 (of_decide_eq_true hb)
    refine zwp_blk 6 (c' := (122, [some (.inr (some (16, 0))), some (.inl x1), some (.inl x2), some (.inl x3), some (.inl x4), some (.inl x5), none, none], [.inl x3, .inl x2, .inl x1, .inl x5, .inl (nI 1), .inr (some (16, 0))], (S, d))) rfl ?_
    exact zwp_call rfl h
  · show zwp 95 (18, [some (.inr (some (16, 0))), some (.inl x1), some (.inl x2), some (.inl x3), some (.inl x4), some (.inl x5), none, none], [], (S, d)) Q
    replace h := h.2 (of_decide_eq_false hb)
    refine zwp_blk 6 (c' := (27, [some (.inr (some (16, 0))), some (.inl x1), some (.inl x2), some (.inl x3), some (.inl x4), some (.inl (nI 0)), some (.inl (nI 0)), none], [.inl (nI 0), .inr (some (16, 0))], (S, d))) rfl ?_
    exact zwp_call rfl h
theorem w95_30 {S : zS} {d : Nat} {Q : zO → zT → Prop} {x1 : Int32} {x2 : Int32} {x3 : Int32} {x4 : Int32} {x5 : Int32} {x6 : Int32} (h : zwp 79 (0, zent 79 [.inr (some (16, 0)), .inl x5], [], (S, d)) (zaf 95 36 [some (.inr (some (16, 0))), some (.inl x1), some (.inl x2), some (.inl x3), some (.inl x4), some (.inl x5), some (.inl x6), none] [] Q)) : zwp 95 (30, [some (.inr (some (16, 0))), some (.inl x1), some (.inl x2), some (.inl x3), some (.inl x4), some (.inl x5), some (.inl x6), none], [], (S, d)) Q := by
  refine zwp_blk 2 (c' := (33, [some (.inr (some (16, 0))), some (.inl x1), some (.inl x2), some (.inl x3), some (.inl x4), some (.inl x5), some (.inl x6), none], [.inl x5, .inr (some (16, 0))], (S, d))) rfl ?_
  exact zwp_call rfl h
theorem w95_36 {S : zS} {d : Nat} {Q : zO → zT → Prop} {x1 : Int32} {x2 : Int32} {x3 : Int32} {x4 : Int32} {x5 : Int32} {x6 : Int32} (h : zwp 95 (39, [some (.inr (some (16, 0))), some (.inl x1), some (.inl x2), some (.inl x3), some (.inl x4), some (.inl x5), some (.inl x6), some (.inl (nI 1))], [], (S, d)) Q) : zwp 95 (36, [some (.inr (some (16, 0))), some (.inl x1), some (.inl x2), some (.inl x3), some (.inl x4), some (.inl x5), some (.inl x6), none], [], (S, d)) Q := by
  refine zwp_blk 2 (c' := (39, [some (.inr (some (16, 0))), some (.inl x1), some (.inl x2), some (.inl x3), some (.inl x4), some (.inl x5), some (.inl x6), some (.inl (nI 1))], [], (S, d))) rfl ?_
  exact h
theorem w95_39 {S : zS} {d : Nat} {Q : zO → zT → Prop} {x1 : Int32} {x2 : Int32} {x3 : Int32} {x4 : Int32} {x5 : Int32} {x6 : Int32} {x7 : Int32} (h : (x7 = 0 → zwp 94 (0, zent 94 [.inr (some (16, 0)), .inl (nI 1), .inl x5, .inl x1, .inl x2, .inl x3], [], (S, d)) (zaf 95 125 [some (.inr (some (16, 0))), some (.inl x1), some (.inl x2), some (.inl x3), some (.inl x4), some (.inl x5), some (.inl x6), some (.inl x7)] [] Q)) ∧ (¬ x7 = 0 → ((S 1049 0 0) = (nI 4) → zwp 91 (0, zent 91 [.inr (some (16, 0)), .inl x5, .inl x6, .inl x1], [], (S, d)) (zaf 95 61 [some (.inr (some (16, 0))), some (.inl x1), some (.inl x2), some (.inl x3), some (.inl x4), some (.inl x5), some (.inl x6), some (.inl x7)] [] Q)) ∧ (¬ (S 1049 0 0) = (nI 4) → zwp 95 (78, [some (.inr (some (16, 0))), some (.inl x1), some (.inl x2), some (.inl x3), some (.inl x4), some (.inl x5), some (.inl x6), some (.inl x7)], [], (S, d)) Q))) : zwp 95 (39, [some (.inr (some (16, 0))), some (.inl x1), some (.inl x2), some (.inl x3), some (.inl x4), some (.inl x5), some (.inl x6), some (.inl x7)], [], (S, d)) Q := by
  refine zwp_blk 1 (c' := (41, [some (.inr (some (16, 0))), some (.inl x1), some (.inl x2), some (.inl x3), some (.inl x4), some (.inl x5), some (.inl x6), some (.inl x7)], [.inl x7], (S, d))) rfl ?_
  refine zwp_br rfl (fun hb => ?_) (fun hb => ?_)
  · show zwp 95 (115, [some (.inr (some (16, 0))), some (.inl x1), some (.inl x2), some (.inl x3), some (.inl x4), some (.inl x5), some (.inl x6), some (.inl x7)], [], (S, d)) Q
    replace h := h.1 (of_decide_eq_true hb)
    refine zwp_blk 6 (c' := (122, [some (.inr (some (16, 0))), some (.inl x1), some (.inl x2), some (.inl x3), some (.inl x4), some (.inl x5), some (.inl x6), some (.inl x7)], [.inl x3, .inl x2, .inl x1, .inl x5, .inl (nI 1), .inr (some (16, 0))], (S, d))) rfl ?_
    exact zwp_call rfl h
  · show zwp 95 (44, [some (.inr (some (16, 0))), some (.inl x1), some (.inl x2), some (.inl x3), some (.inl x4), some (.inl x5), some (.inl x6), some (.inl x7)], [], (S, d)) Q
    replace h := h.2 (of_decide_eq_false hb)
    refine zwp_blk 3 (c' := (49, [some (.inr (some (16, 0))), some (.inl x1), some (.inl x2), some (.inl x3), some (.inl x4), some (.inl x5), some (.inl x6), some (.inl x7)], [.inl (nI 4), .inl (S 1049 0 0)], (S, d))) rfl ?_
    refine zwp_br rfl (fun hb => ?_) (fun hb => ?_)
    · show zwp 95 (78, [some (.inr (some (16, 0))), some (.inl x1), some (.inl x2), some (.inl x3), some (.inl x4), some (.inl x5), some (.inl x6), some (.inl x7)], [], (S, d)) Q
      replace h := h.2 (zne_t hb)
      exact h
    · show zwp 95 (52, [some (.inr (some (16, 0))), some (.inl x1), some (.inl x2), some (.inl x3), some (.inl x4), some (.inl x5), some (.inl x6), some (.inl x7)], [], (S, d)) Q
      replace h := h.1 (zne_f hb)
      refine zwp_blk 4 (c' := (58, [some (.inr (some (16, 0))), some (.inl x1), some (.inl x2), some (.inl x3), some (.inl x4), some (.inl x5), some (.inl x6), some (.inl x7)], [.inl x1, .inl x6, .inl x5, .inr (some (16, 0))], (S, d))) rfl ?_
      exact zwp_call rfl h
theorem w95_61 {S : zS} {d : Nat} {Q : zO → zT → Prop} {x1 : Int32} {x2 : Int32} {x3 : Int32} {x4 : Int32} {x5 : Int32} {x6 : Int32} {x7 : Int32} {y0 : Int32} (h : zwp 86 (0, zent 86 [.inr (some (16, 0)), .inl y0], [], (S, d)) (zaf 95 72 [some (.inr (some (16, 0))), some (.inl x1), some (.inl x2), some (.inl x3), some (.inl (x4 + nI 1)), some (.inl y0), some (.inl x6), some (.inl x7)] [] Q)) : zwp 95 (61, [some (.inr (some (16, 0))), some (.inl x1), some (.inl x2), some (.inl x3), some (.inl x4), some (.inl x5), some (.inl x6), some (.inl x7)], [.inl y0], (S, d)) Q := by
  refine zwp_blk 4 (c' := (69, [some (.inr (some (16, 0))), some (.inl x1), some (.inl x2), some (.inl x3), some (.inl (x4 + nI 1)), some (.inl y0), some (.inl x6), some (.inl x7)], [.inl y0, .inr (some (16, 0))], (S, d))) rfl ?_
  exact zwp_call rfl h
theorem w95_72 {S : zS} {d : Nat} {Q : zO → zT → Prop} {x1 : Int32} {x2 : Int32} {x3 : Int32} {x4 : Int32} {x5 : Int32} {x6 : Int32} {x7 : Int32} (h : zwp 79 (0, zent 79 [.inr (some (16, 0)), .inl x5], [], (S, d)) (zaf 95 78 [some (.inr (some (16, 0))), some (.inl x1), some (.inl x2), some (.inl x3), some (.inl x4), some (.inl x5), some (.inl x6), some (.inl x7)] [] Q)) : zwp 95 (72, [some (.inr (some (16, 0))), some (.inl x1), some (.inl x2), some (.inl x3), some (.inl x4), some (.inl x5), some (.inl x6), some (.inl x7)], [], (S, d)) Q := by
  refine zwp_blk 2 (c' := (75, [some (.inr (some (16, 0))), some (.inl x1), some (.inl x2), some (.inl x3), some (.inl x4), some (.inl x5), some (.inl x6), some (.inl x7)], [.inl x5, .inr (some (16, 0))], (S, d))) rfl ?_
  exact zwp_call rfl h
theorem w95_78 {S : zS} {d : Nat} {Q : zO → zT → Prop} {x1 : Int32} {x2 : Int32} {x3 : Int32} {x4 : Int32} {x5 : Int32} {x6 : Int32} {x7 : Int32} (h : ((S 1048 0 0) = 0 → zwp 95 (39, [some (.inr (some (16, 0))), some (.inl x1), some (.inl x2), some (.inl x3), some (.inl x4), some (.inl x5), some (.inl x6), some (.inl (S 1048 0 0))], [], (S, d)) Q) ∧ (¬ (S 1048 0 0) = 0 → zwp 92 (0, zent 92 [.inr (some (16, 0)), .inl x1], [], (S, d)) (zaf 95 98 [some (.inr (some (16, 0))), some (.inl x1), some (.inl x2), some (.inl x3), some (.inl x4), some (.inl x5), some (.inl x5), some (.inl (S 1048 0 0))] [] Q))) : zwp 95 (78, [some (.inr (some (16, 0))), some (.inl x1), some (.inl x2), some (.inl x3), some (.inl x4), some (.inl x5), some (.inl x6), some (.inl x7)], [], (S, d)) Q := by
  refine zwp_blk 4 (c' := (86, [some (.inr (some (16, 0))), some (.inl x1), some (.inl x2), some (.inl x3), some (.inl x4), some (.inl x5), some (.inl x6), some (.inl (S 1048 0 0))], [.inl (S 1048 0 0)], (S, d))) rfl ?_
  refine zwp_br rfl (fun hb => ?_) (fun hb => ?_)
  · show zwp 95 (39, [some (.inr (some (16, 0))), some (.inl x1), some (.inl x2), some (.inl x3), some (.inl x4), some (.inl x5), some (.inl x6), some (.inl (S 1048 0 0))], [], (S, d)) Q
    replace h := h.1 (of_decide_eq_true hb)
    exact h
  · show zwp 95 (89, [some (.inr (some (16, 0))), some (.inl x1), some (.inl x2), some (.inl x3), some (.inl x4), some (.inl x5), some (.inl x6), some (.inl (S 1048 0 0))], [], (S, d)) Q
    replace h := h.2 (of_decide_eq_false hb)
    refine zwp_blk 4 (c' := (95, [some (.inr (some (16, 0))), some (.inl x1), some (.inl x2), some (.inl x3), some (.inl x4), some (.inl x5), some (.inl x5), some (.inl (S 1048 0 0))], [.inl x1, .inr (some (16, 0))], (S, d))) rfl ?_
    exact zwp_call rfl h
theorem w95_98 {S : zS} {d : Nat} {Q : zO → zT → Prop} {x1 : Int32} {x2 : Int32} {x3 : Int32} {x4 : Int32} {x5 : Int32} {x6 : Int32} {x7 : Int32} {y0 : Int32} (h : zwp 86 (0, zent 86 [.inr (some (16, 0)), .inl y0], [], (S, d)) (zaf 95 106 [some (.inr (some (16, 0))), some (.inl x1), some (.inl x2), some (.inl x3), some (.inl x4), some (.inl y0), some (.inl x6), some (.inl x7)] [] Q)) : zwp 95 (98, [some (.inr (some (16, 0))), some (.inl x1), some (.inl x2), some (.inl x3), some (.inl x4), some (.inl x5), some (.inl x6), some (.inl x7)], [.inl y0], (S, d)) Q := by
  refine zwp_blk 3 (c' := (103, [some (.inr (some (16, 0))), some (.inl x1), some (.inl x2), some (.inl x3), some (.inl x4), some (.inl y0), some (.inl x6), some (.inl x7)], [.inl y0, .inr (some (16, 0))], (S, d))) rfl ?_
  exact zwp_call rfl h
theorem w95_106 {S : zS} {d : Nat} {Q : zO → zT → Prop} {x1 : Int32} {x2 : Int32} {x3 : Int32} {x4 : Int32} {x5 : Int32} {x6 : Int32} {x7 : Int32} (h : zwp 79 (0, zent 79 [.inr (some (16, 0)), .inl x5], [], (S, d)) (zaf 95 112 [some (.inr (some (16, 0))), some (.inl x1), some (.inl x2), some (.inl x3), some (.inl x4), some (.inl x5), some (.inl x6), some (.inl x7)] [] Q)) : zwp 95 (106, [some (.inr (some (16, 0))), some (.inl x1), some (.inl x2), some (.inl x3), some (.inl x4), some (.inl x5), some (.inl x6), some (.inl x7)], [], (S, d)) Q := by
  refine zwp_blk 2 (c' := (109, [some (.inr (some (16, 0))), some (.inl x1), some (.inl x2), some (.inl x3), some (.inl x4), some (.inl x5), some (.inl x6), some (.inl x7)], [.inl x5, .inr (some (16, 0))], (S, d))) rfl ?_
  exact zwp_call rfl h
theorem w95_112 {S : zS} {d : Nat} {Q : zO → zT → Prop} {x1 : Int32} {x2 : Int32} {x3 : Int32} {x4 : Int32} {x5 : Int32} {x6 : Int32} {x7 : Int32} (h : zwp 95 (39, [some (.inr (some (16, 0))), some (.inl x1), some (.inl x2), some (.inl x3), some (.inl x4), some (.inl x5), some (.inl x6), some (.inl x7)], [], (S, d)) Q) : zwp 95 (112, [some (.inr (some (16, 0))), some (.inl x1), some (.inl x2), some (.inl x3), some (.inl x4), some (.inl x5), some (.inl x6), some (.inl x7)], [], (S, d)) Q := by
  refine zwp_blk 1 (c' := (39, [some (.inr (some (16, 0))), some (.inl x1), some (.inl x2), some (.inl x3), some (.inl x4), some (.inl x5), some (.inl x6), some (.inl x7)], [], (S, d))) rfl ?_
  exact h
theorem w95_125 {S : zS} {d : Nat} {Q : zO → zT → Prop} {x1 : Int32} {x2 : Int32} {x3 : Int32} {x4 : Int32} {x5 : Int32} {x6 : Option zV} {x7 : Option zV} (h : Q (.inl (some (.inl x4))) (S, d)) : zwp 95 (125, [some (.inr (some (16, 0))), some (.inl x1), some (.inl x2), some (.inl x3), some (.inl x4), some (.inl x5), x6, x7], [], (S, d)) Q := by
  refine zwp_blk 1 (c' := (127, [some (.inr (some (16, 0))), some (.inl x1), some (.inl x2), some (.inl x3), some (.inl x4), some (.inl x5), x6, x7], [.inl x4], (S, d))) rfl ?_
  exact zwp_end rfl h
-- 96 PageKeeperModel.isPlace
theorem w96_0 {S : zS} {d : Nat} {Q : zO → zT → Prop} {x1 : Int32} (h : zwp 77 (0, zent 77 [.inl x1, .inl (nI 0), .inl (nI 3)], [], (S, d)) (zaf 96 6 [some (.inr (some (16, 0))), some (.inl x1)] [] Q)) : zwp 96 (0, [some (.inr (some (16, 0))), some (.inl x1)], [], (S, d)) Q := by
  refine zwp_blk 3 (c' := (3, [some (.inr (some (16, 0))), some (.inl x1)], [.inl (nI 3), .inl (nI 0), .inl x1], (S, d))) rfl ?_
  exact zwp_call rfl h
theorem w96_6 {S : zS} {d : Nat} {Q : zO → zT → Prop} {x1 : Int32} {y0 : Int32} (h : (y0 = 0 ∨ y0 = 1) ∧ Q (.inl (some (.inl y0))) (S, d)) : zwp 96 (6, [some (.inr (some (16, 0))), some (.inl x1)], [.inl y0], (S, d)) Q := by
  exact zwp_ret01 (x := y0) rfl h.1 h.2
-- 97 PageKeeperModel.isOpen
theorem w97_0 {S : zS} {d : Nat} {Q : zO → zT → Prop} {x1 : Int32} (h : zwp 97 (4, [some (.inr (some (16, 0))), some (.inl x1), some (.inl (nI 0)), some (.inl (nI 0))], [], (S, d)) Q) : zwp 97 (0, [some (.inr (some (16, 0))), some (.inl x1), none, none], [], (S, d)) Q := by
  refine zwp_blk 4 (c' := (4, [some (.inr (some (16, 0))), some (.inl x1), some (.inl (nI 0)), some (.inl (nI 0))], [], (S, d))) rfl ?_
  exact h
theorem w97_4 {S : zS} {d : Nat} {Q : zO → zT → Prop} {x1 : Int32} {x2 : Int32} {x3 : Int32} (h : ((nI 4) ≤ x3 → (x2 = 0 ∨ x2 = 1) ∧ Q (.inl (some (.inl x2))) (S, d)) ∧ (¬ (nI 4) ≤ x3 → (x2 = 0 → ∃ j1 : Nat, x3 = nI j1 ∧ j1 < 4 ∧ (((S 2112 0 j1) = x1 → zwp 97 (4, [some (.inr (some (16, 0))), some (.inl x1), some (.inl (nI 1)), some (.inl (x3 + nI 1))], [], (S, d)) Q) ∧ (¬ (S 2112 0 j1) = x1 → zwp 97 (4, [some (.inr (some (16, 0))), some (.inl x1), some (.inl (nI 0)), some (.inl (x3 + nI 1))], [], (S, d)) Q))) ∧ (¬ x2 = 0 → zwp 97 (4, [some (.inr (some (16, 0))), some (.inl x1), some (.inl (nI 1)), some (.inl (x3 + nI 1))], [], (S, d)) Q))) : zwp 97 (4, [some (.inr (some (16, 0))), some (.inl x1), some (.inl x2), some (.inl x3)], [], (S, d)) Q := by
  refine zwp_blk 2 (c' := (6, [some (.inr (some (16, 0))), some (.inl x1), some (.inl x2), some (.inl x3)], [.inl (nI 4), .inl x3], (S, d))) rfl ?_
  refine zwp_br rfl (fun hb => ?_) (fun hb => ?_)
  · show zwp 97 (35, [some (.inr (some (16, 0))), some (.inl x1), some (.inl x2), some (.inl x3)], [], (S, d)) Q
    replace h := h.1 (of_decide_eq_true hb)
    refine zwp_blk 1 (c' := (36, [some (.inr (some (16, 0))), some (.inl x1), some (.inl x2), some (.inl x3)], [.inl x2], (S, d))) rfl ?_
    exact zwp_ret01 (x := x2) rfl h.1 h.2
  · show zwp 97 (9, [some (.inr (some (16, 0))), some (.inl x1), some (.inl x2), some (.inl x3)], [], (S, d)) Q
    replace h := h.2 (of_decide_eq_false hb)
    refine zwp_blk 1 (c' := (10, [some (.inr (some (16, 0))), some (.inl x1), some (.inl x2), some (.inl x3)], [.inl x2], (S, d))) rfl ?_
    refine zwp_br rfl (fun hb => ?_) (fun hb => ?_)
    · show zwp 97 (23, [some (.inr (some (16, 0))), some (.inl x1), some (.inl x2), some (.inl x3)], [], (S, d)) Q
      replace h := h.2 (zne_t hb)
      refine zwp_blk 5 (c' := (4, [some (.inr (some (16, 0))), some (.inl x1), some (.inl (nI 1)), some (.inl (x3 + nI 1))], [], (S, d))) rfl ?_
      exact h
    · show zwp 97 (13, [some (.inr (some (16, 0))), some (.inl x1), some (.inl x2), some (.inl x3)], [], (S, d)) Q
      replace h := h.1 (zne_f hb)
      refine zwp_blk 3 (c' := (18, [some (.inr (some (16, 0))), some (.inl x1), some (.inl x2), some (.inl x3)], [.inl x3, .inr (some (33, 0))], (S, d))) rfl ?_
      obtain ⟨j1, ej1, lj1, h⟩ := h
      refine zwp_ldx (n := 4) (cd := 2112) (i := 0) (pc' := 19) (ls := [some (.inr (some (16, 0))), some (.inl x1), some (.inl x2), some (.inl x3)]) (r := []) (t := (S, d)) rfl ej1 lj1 (by decide) ?_
      refine zwp_blk 1 (c' := (20, [some (.inr (some (16, 0))), some (.inl x1), some (.inl x2), some (.inl x3)], [.inl x1, .inl (S 2112 0 j1)], (S, d))) rfl ?_
      refine zwp_br rfl (fun hb => ?_) (fun hb => ?_)
      · show zwp 97 (27, [some (.inr (some (16, 0))), some (.inl x1), some (.inl x2), some (.inl x3)], [], (S, d)) Q
        replace h := h.2 (zne_t hb)
        refine zwp_blk 4 (c' := (4, [some (.inr (some (16, 0))), some (.inl x1), some (.inl (nI 0)), some (.inl (x3 + nI 1))], [], (S, d))) rfl ?_
        exact h
      · show zwp 97 (23, [some (.inr (some (16, 0))), some (.inl x1), some (.inl x2), some (.inl x3)], [], (S, d)) Q
        replace h := h.1 (zne_f hb)
        refine zwp_blk 5 (c' := (4, [some (.inr (some (16, 0))), some (.inl x1), some (.inl (nI 1)), some (.inl (x3 + nI 1))], [], (S, d))) rfl ?_
        exact h
-- 98 PageKeeperModel.isLoser
theorem w98_0 {S : zS} {d : Nat} {Q : zO → zT → Prop} {x1 : Int32} (h : zwp 98 (4, [some (.inr (some (16, 0))), some (.inl x1), some (.inl (nI 0)), some (.inl (nI 1))], [], (S, d)) Q) : zwp 98 (0, [some (.inr (some (16, 0))), some (.inl x1), none, none], [], (S, d)) Q := by
  refine zwp_blk 4 (c' := (4, [some (.inr (some (16, 0))), some (.inl x1), some (.inl (nI 0)), some (.inl (nI 1))], [], (S, d))) rfl ?_
  exact h
theorem w98_4 {S : zS} {d : Nat} {Q : zO → zT → Prop} {x1 : Int32} {x2 : Int32} {x3 : Int32} (h : ((S 1025 0 0) < x3 → (x2 = 0 → Q (.inl (some (.inl (nI 0)))) (S, d)) ∧ (¬ x2 = 0 → zwp 97 (0, zent 97 [.inr (some (16, 0)), .inl x1], [], (S, d)) (zaf 98 70 [some (.inr (some (16, 0))), some (.inl x1), some (.inl x2), some (.inl x3)] [] Q))) ∧ (¬ (S 1025 0 0) < x3 → ∃ j1 : Nat, x3 = nI j1 ∧ j1 < 1300 ∧ (((S 1216 0 j1) = x1 → ∃ j2 : Nat, x3 = nI j2 ∧ j2 < 1300 ∧ (((S 1088 0 j2) < (nI 6) → zwp 98 (35, [some (.inr (some (16, 0))), some (.inl x1), some (.inl x2), some (.inl x3)], [], (S, d)) Q) ∧ (¬ (S 1088 0 j2) < (nI 6) → Q (.inl (some (.inl (nI 0)))) (S, d)))) ∧ (¬ (S 1216 0 j1) = x1 → zwp 98 (35, [some (.inr (some (16, 0))), some (.inl x1), some (.inl x2), some (.inl x3)], [], (S, d)) Q)))) : zwp 98 (4, [some (.inr (some (16, 0))), some (.inl x1), some (.inl x2), some (.inl x3)], [], (S, d)) Q := by
  refine zwp_blk 3 (c' := (9, [some (.inr (some (16, 0))), some (.inl x1), some (.inl x2), some (.inl x3)], [.inl (S 1025 0 0), .inl x3], (S, d))) rfl ?_
  refine zwp_br rfl (fun hb => ?_) (fun hb => ?_)
  · show zwp 98 (61, [some (.inr (some (16, 0))), some (.inl x1), some (.inl x2), some (.inl x3)], [], (S, d)) Q
    replace h := h.1 (of_decide_eq_true hb)
    refine zwp_blk 1 (c' := (62, [some (.inr (some (16, 0))), some (.inl x1), some (.inl x2), some (.inl x3)], [.inl x2], (S, d))) rfl ?_
    refine zwp_br rfl (fun hb => ?_) (fun hb => ?_)
    · show zwp 98 (77, [some (.inr (some (16, 0))), some (.inl x1), some (.inl x2), some (.inl x3)], [], (S, d)) Q
      replace h := h.1 (of_decide_eq_true hb)
      refine zwp_blk 1 (c' := (78, [some (.inr (some (16, 0))), some (.inl x1), some (.inl x2), some (.inl x3)], [.inl (nI 0)], (S, d))) rfl ?_
      exact zwp_ret01 (x := nI 0) rfl (by decide) h
    · show zwp 98 (65, [some (.inr (some (16, 0))), some (.inl x1), some (.inl x2), some (.inl x3)], [], (S, d)) Q
      replace h := h.2 (of_decide_eq_false hb)
      refine zwp_blk 2 (c' := (67, [some (.inr (some (16, 0))), some (.inl x1), some (.inl x2), some (.inl x3)], [.inl x1, .inr (some (16, 0))], (S, d))) rfl ?_
      exact zwp_call rfl h
  · show zwp 98 (12, [some (.inr (some (16, 0))), some (.inl x1), some (.inl x2), some (.inl x3)], [], (S, d)) Q
    replace h := h.2 (of_decide_eq_false hb)
    refine zwp_blk 3 (c' := (17, [some (.inr (some (16, 0))), some (.inl x1), some (.inl x2), some (.inl x3)], [.inl x3, .inr (some (19, 0))], (S, d))) rfl ?_
    obtain ⟨j1, ej1, lj1, h⟩ := h
    refine zwp_ldx (n := 1300) (cd := 1216) (i := 0) (pc' := 18) (ls := [some (.inr (some (16, 0))), some (.inl x1), some (.inl x2), some (.inl x3)]) (r := []) (t := (S, d)) rfl ej1 lj1 (by decide) ?_
    refine zwp_blk 1 (c' := (19, [some (.inr (some (16, 0))), some (.inl x1), some (.inl x2), some (.inl x3)], [.inl x1, .inl (S 1216 0 j1)], (S, d))) rfl ?_
    refine zwp_br rfl (fun hb => ?_) (fun hb => ?_)
    · show zwp 98 (35, [some (.inr (some (16, 0))), some (.inl x1), some (.inl x2), some (.inl x3)], [], (S, d)) Q
      replace h := h.2 (zne_t hb)
      exact h
    · show zwp 98 (22, [some (.inr (some (16, 0))), some (.inl x1), some (.inl x2), some (.inl x3)], [], (S, d)) Q
      replace h := h.1 (zne_f hb)
      refine zwp_blk 3 (c' := (27, [some (.inr (some (16, 0))), some (.inl x1), some (.inl x2), some (.inl x3)], [.inl x3, .inr (some (17, 0))], (S, d))) rfl ?_
      obtain ⟨j2, ej2, lj2, h⟩ := h
      refine zwp_ldx (n := 1300) (cd := 1088) (i := 0) (pc' := 28) (ls := [some (.inr (some (16, 0))), some (.inl x1), some (.inl x2), some (.inl x3)]) (r := []) (t := (S, d)) rfl ej2 lj2 (by decide) ?_
      refine zwp_blk 1 (c' := (30, [some (.inr (some (16, 0))), some (.inl x1), some (.inl x2), some (.inl x3)], [.inl (nI 6), .inl (S 1088 0 j2)], (S, d))) rfl ?_
      refine zwp_br rfl (fun hb => ?_) (fun hb => ?_)
      · show zwp 98 (35, [some (.inr (some (16, 0))), some (.inl x1), some (.inl x2), some (.inl x3)], [], (S, d)) Q
        replace h := h.1 (of_decide_eq_true hb)
        exact h
      · show zwp 98 (33, [some (.inr (some (16, 0))), some (.inl x1), some (.inl x2), some (.inl x3)], [], (S, d)) Q
        replace h := h.2 (of_decide_eq_false hb)
        refine zwp_blk 1 (c' := (34, [some (.inr (some (16, 0))), some (.inl x1), some (.inl x2), some (.inl x3)], [.inl (nI 0)], (S, d))) rfl ?_
        exact zwp_ret01 (x := nI 0) rfl (by decide) h
theorem w98_35 {S : zS} {d : Nat} {Q : zO → zT → Prop} {x1 : Int32} {x2 : Int32} {x3 : Int32} (h : (x2 = 0 → ∃ j1 : Nat, x3 = nI j1 ∧ j1 < 1300 ∧ (((S 1216 0 j1) = x1 → zwp 98 (4, [some (.inr (some (16, 0))), some (.inl x1), some (.inl (nI 1)), some (.inl (x3 + nI 1))], [], (S, d)) Q) ∧ (¬ (S 1216 0 j1) = x1 → zwp 98 (4, [some (.inr (some (16, 0))), some (.inl x1), some (.inl (nI 0)), some (.inl (x3 + nI 1))], [], (S, d)) Q))) ∧ (¬ x2 = 0 → zwp 98 (4, [some (.inr (some (16, 0))), some (.inl x1), some (.inl (nI 1)), some (.inl (x3 + nI 1))], [], (S, d)) Q)) : zwp 98 (35, [some (.inr (some (16, 0))), some (.inl x1), some (.inl x2), some (.inl x3)], [], (S, d)) Q := by
  refine zwp_blk 1 (c' := (36, [some (.inr (some (16, 0))), some (.inl x1), some (.inl x2), some (.inl x3)], [.inl x2], (S, d))) rfl ?_
  refine zwp_br rfl (fun hb => ?_) (fun hb => ?_)
  · show zwp 98 (49, [some (.inr (some (16, 0))), some (.inl x1), some (.inl x2), some (.inl x3)], [], (S, d)) Q
    replace h := h.2 (zne_t hb)
    refine zwp_blk 5 (c' := (4, [some (.inr (some (16, 0))), some (.inl x1), some (.inl (nI 1)), some (.inl (x3 + nI 1))], [], (S, d))) rfl ?_
    exact h
  · show zwp 98 (39, [some (.inr (some (16, 0))), some (.inl x1), some (.inl x2), some (.inl x3)], [], (S, d)) Q
    replace h := h.1 (zne_f hb)
    refine zwp_blk 3 (c' := (44, [some (.inr (some (16, 0))), some (.inl x1), some (.inl x2), some (.inl x3)], [.inl x3, .inr (some (19, 0))], (S, d))) rfl ?_
    obtain ⟨j1, ej1, lj1, h⟩ := h
    refine zwp_ldx (n := 1300) (cd := 1216) (i := 0) (pc' := 45) (ls := [some (.inr (some (16, 0))), some (.inl x1), some (.inl x2), some (.inl x3)]) (r := []) (t := (S, d)) rfl ej1 lj1 (by decide) ?_
    refine zwp_blk 1 (c' := (46, [some (.inr (some (16, 0))), some (.inl x1), some (.inl x2), some (.inl x3)], [.inl x1, .inl (S 1216 0 j1)], (S, d))) rfl ?_
    refine zwp_br rfl (fun hb => ?_) (fun hb => ?_)
    · show zwp 98 (53, [some (.inr (some (16, 0))), some (.inl x1), some (.inl x2), some (.inl x3)], [], (S, d)) Q
      replace h := h.2 (zne_t hb)
      refine zwp_blk 4 (c' := (4, [some (.inr (some (16, 0))), some (.inl x1), some (.inl (nI 0)), some (.inl (x3 + nI 1))], [], (S, d))) rfl ?_
      exact h
    · show zwp 98 (49, [some (.inr (some (16, 0))), some (.inl x1), some (.inl x2), some (.inl x3)], [], (S, d)) Q
      replace h := h.1 (zne_f hb)
      refine zwp_blk 5 (c' := (4, [some (.inr (some (16, 0))), some (.inl x1), some (.inl (nI 1)), some (.inl (x3 + nI 1))], [], (S, d))) rfl ?_
      exact h
theorem w98_70 {S : zS} {d : Nat} {Q : zO → zT → Prop} {x1 : Int32} {x2 : Int32} {x3 : Int32} {y0 : Int32} (h : (y0 = 0 → Q (.inl (some (.inl (nI 1)))) (S, d)) ∧ (¬ y0 = 0 → Q (.inl (some (.inl (nI 0)))) (S, d))) : zwp 98 (70, [some (.inr (some (16, 0))), some (.inl x1), some (.inl x2), some (.inl x3)], [.inl y0], (S, d)) Q := by
  refine zwp_br rfl (fun hb => ?_) (fun hb => ?_)
  · show zwp 98 (77, [some (.inr (some (16, 0))), some (.inl x1), some (.inl x2), some (.inl x3)], [], (S, d)) Q
    replace h := h.2 (zne_t hb)
    refine zwp_blk 1 (c' := (78, [some (.inr (some (16, 0))), some (.inl x1), some (.inl x2), some (.inl x3)], [.inl (nI 0)], (S, d))) rfl ?_
    exact zwp_ret01 (x := nI 0) rfl (by decide) h
  · show zwp 98 (73, [some (.inr (some (16, 0))), some (.inl x1), some (.inl x2), some (.inl x3)], [], (S, d)) Q
    replace h := h.1 (zne_f hb)
    refine zwp_blk 2 (c' := (78, [some (.inr (some (16, 0))), some (.inl x1), some (.inl x2), some (.inl x3)], [.inl (nI 1)], (S, d))) rfl ?_
    exact zwp_ret01 (x := nI 1) rfl (by decide) h
-- 99 PageKeeperModel.wasUndone
theorem w99_0 {S : zS} {d : Nat} {Q : zO → zT → Prop} {x1 : Int32} (h : zwp 99 (4, [some (.inr (some (16, 0))), some (.inl x1), some (.inl (x1 + (nI 1)))], [], (S, d)) Q) : zwp 99 (0, [some (.inr (some (16, 0))), some (.inl x1), none], [], (S, d)) Q := by
  refine zwp_blk 4 (c' := (4, [some (.inr (some (16, 0))), some (.inl x1), some (.inl (x1 + (nI 1)))], [], (S, d))) rfl ?_
  exact h
theorem w99_4 {S : zS} {d : Nat} {Q : zO → zT → Prop} {x1 : Int32} {x2 : Int32} (h : ((S 1025 0 0) < x2 → Q (.inl (some (.inl (nI 0)))) (S, d)) ∧ (¬ (S 1025 0 0) < x2 → ∃ j1 : Nat, x2 = nI j1 ∧ j1 < 1300 ∧ (((S 1536 0 j1) = x1 → Q (.inl (some (.inl (nI 1)))) (S, d)) ∧ (¬ (S 1536 0 j1) = x1 → zwp 99 (4, [some (.inr (some (16, 0))), some (.inl x1), some (.inl (x2 + nI 1))], [], (S, d)) Q)))) : zwp 99 (4, [some (.inr (some (16, 0))), some (.inl x1), some (.inl x2)], [], (S, d)) Q := by
  refine zwp_blk 3 (c' := (9, [some (.inr (some (16, 0))), some (.inl x1), some (.inl x2)], [.inl (S 1025 0 0), .inl x2], (S, d))) rfl ?_
  refine zwp_br rfl (fun hb => ?_) (fun hb => ?_)
  · show zwp 99 (30, [some (.inr (some (16, 0))), some (.inl x1), some (.inl x2)], [], (S, d)) Q
    replace h := h.1 (of_decide_eq_true hb)
    refine zwp_blk 1 (c' := (31, [some (.inr (some (16, 0))), some (.inl x1), some (.inl x2)], [.inl (nI 0)], (S, d))) rfl ?_
    exact zwp_ret01 (x := nI 0) rfl (by decide) h
  · show zwp 99 (12, [some (.inr (some (16, 0))), some (.inl x1), some (.inl x2)], [], (S, d)) Q
    replace h := h.2 (of_decide_eq_false hb)
    refine zwp_blk 3 (c' := (17, [some (.inr (some (16, 0))), some (.inl x1), some (.inl x2)], [.inl x2, .inr (some (24, 0))], (S, d))) rfl ?_
    obtain ⟨j1, ej1, lj1, h⟩ := h
    refine zwp_ldx (n := 1300) (cd := 1536) (i := 0) (pc' := 18) (ls := [some (.inr (some (16, 0))), some (.inl x1), some (.inl x2)]) (r := []) (t := (S, d)) rfl ej1 lj1 (by decide) ?_
    refine zwp_blk 1 (c' := (19, [some (.inr (some (16, 0))), some (.inl x1), some (.inl x2)], [.inl x1, .inl (S 1536 0 j1)], (S, d))) rfl ?_
    refine zwp_br rfl (fun hb => ?_) (fun hb => ?_)
    · show zwp 99 (24, [some (.inr (some (16, 0))), some (.inl x1), some (.inl x2)], [], (S, d)) Q
      replace h := h.2 (zne_t hb)
      refine zwp_blk 2 (c' := (4, [some (.inr (some (16, 0))), some (.inl x1), some (.inl (x2 + nI 1))], [], (S, d))) rfl ?_
      exact h
    · show zwp 99 (22, [some (.inr (some (16, 0))), some (.inl x1), some (.inl x2)], [], (S, d)) Q
      replace h := h.1 (zne_f hb)
      refine zwp_blk 1 (c' := (23, [some (.inr (some (16, 0))), some (.inl x1), some (.inl x2)], [.inl (nI 1)], (S, d))) rfl ?_
      exact zwp_ret01 (x := nI 1) rfl (by decide) h
-- 100 PageKeeperModel.rollBack
theorem w100_0 {S : zS} {d : Nat} {Q : zO → zT → Prop} {x1 : Int32} (h : zwp 100 (10, [some (.inr (some (16, 0))), some (.inl x1), some (.inl (S 1025 0 0)), some (.inl (nI 0)), some (.inl (S 1025 0 0)), none], [], (S, d)) Q) : zwp 100 (0, [some (.inr (some (16, 0))), some (.inl x1), none, none, none, none], [], (S, d)) Q := by
  refine zwp_blk 7 (c' := (10, [some (.inr (some (16, 0))), some (.inl x1), some (.inl (S 1025 0 0)), some (.inl (nI 0)), some (.inl (S 1025 0 0)), none], [], (S, d))) rfl ?_
  exact h
theorem w100_10 {S : zS} {d : Nat} {Q : zO → zT → Prop} {x1 : Int32} {x2 : Int32} {x3 : Int32} {x4 : Int32} {x5 : Option zV} (h : (x4 ≤ 0 → zwp 88 (0, zent 88 [.inr (some (16, 0)), .inl (nI 7), .inl (nI 0)], [], (S, d)) (zaf 100 145 [some (.inr (some (16, 0))), some (.inl x1), some (.inl x2), some (.inl x3), some (.inl x4), x5] [] Q)) ∧ (¬ x4 ≤ 0 → ∃ j1 : Nat, x4 = nI j1 ∧ j1 < 1300 ∧ (((nI 2) < (S 1088 0 j1) → zwp 100 (10, [some (.inr (some (16, 0))), some (.inl x1), some (.inl x2), some (.inl x3), some (.inl (x4 + zint (-1))), x5], [], (S, d)) Q) ∧ (¬ (nI 2) < (S 1088 0 j1) → ∃ j2 : Nat, x4 = nI j2 ∧ j2 < 1300 ∧ (((S 1216 0 j2) = x1 → ∃ j3 : Nat, x4 = nI j3 ∧ j3 < 1300 ∧ (((S 1536 0 j3) = 0 → zwp 99 (0, zent 99 [.inr (some (16, 0)), .inl x4], [], (S, d)) (zaf 100 53 [some (.inr (some (16, 0))), some (.inl x1), some (.inl x2), some (.inl x3), some (.inl x4), x5] [] Q)) ∧ (¬ (S 1536 0 j3) = 0 → zwp 100 (10, [some (.inr (some (16, 0))), some (.inl x1), some (.inl x2), some (.inl x3), some (.inl (x4 + zint (-1))), x5], [], (S, d)) Q))) ∧ (¬ (S 1216 0 j2) = x1 → zwp 100 (10, [some (.inr (some (16, 0))), some (.inl x1), some (.inl x2), some (.inl x3), some (.inl (x4 + zint (-1))), x5], [], (S, d)) Q)))))) : zwp 100 (10, [some (.inr (some (16, 0))), some (.inl x1), some (.inl x2), some (.inl x3), some (.inl x4), x5], [], (S, d)) Q := by
  refine zwp_blk 1 (c' := (12, [some (.inr (some (16, 0))), some (.inl x1), some (.inl x2), some (.inl x3), some (.inl x4), x5], [.inl x4], (S, d))) rfl ?_
  refine zwp_br rfl (fun hb => ?_) (fun hb => ?_)
  · show zwp 100 (138, [some (.inr (some (16, 0))), some (.inl x1), some (.inl x2), some (.inl x3), some (.inl x4), x5], [], (S, d)) Q
    replace h := h.1 (of_decide_eq_true hb)
    refine zwp_blk 3 (c' := (142, [some (.inr (some (16, 0))), some (.inl x1), some (.inl x2), some (.inl x3), some (.inl x4), x5], [.inl (nI 0), .inl (nI 7), .inr (some (16, 0))], (S, d))) rfl ?_
    exact zwp_call rfl h
  · show zwp 100 (15, [some (.inr (some (16, 0))), some (.inl x1), some (.inl x2), some (.inl x3), some (.inl x4), x5], [], (S, d)) Q
    replace h := h.2 (of_decide_eq_false hb)
    refine zwp_blk 3 (c' := (21, [some (.inr (some (16, 0))), some (.inl x1), some (.inl x2), some (.inl x3), some (.inl x4), x5], [.inl x4, .inr (some (17, 0))], (S, d))) rfl ?_
    obtain ⟨j1, ej1, lj1, h⟩ := h
    refine zwp_ldx (n := 1300) (cd := 1088) (i := 0) (pc' := 22) (ls := [some (.inr (some (16, 0))), some (.inl x1), some (.inl x2), some (.inl x3), some (.inl x4), x5]) (r := []) (t := (S, d)) rfl ej1 lj1 (by decide) ?_
    refine zwp_blk 1 (c' := (23, [some (.inr (some (16, 0))), some (.inl x1), some (.inl x2), some (.inl x3), some (.inl x4), x5], [.inl (nI 2), .inl (S 1088 0 j1)], (S, d))) rfl ?_
    refine zwp_br rfl (fun hb => ?_) (fun hb => ?_)
    · show zwp 100 (132, [some (.inr (some (16, 0))), some (.inl x1), some (.inl x2), some (.inl x3), some (.inl x4), x5], [], (S, d)) Q
      replace h := h.1 (of_decide_eq_true hb)
      refine zwp_blk 2 (c' := (10, [some (.inr (some (16, 0))), some (.inl x1), some (.inl x2), some (.inl x3), some (.inl (x4 + zint (-1))), x5], [], (S, d))) rfl ?_
      exact h
    · show zwp 100 (26, [some (.inr (some (16, 0))), some (.inl x1), some (.inl x2), some (.inl x3), some (.inl x4), x5], [], (S, d)) Q
      replace h := h.2 (of_decide_eq_false hb)
      refine zwp_blk 3 (c' := (32, [some (.inr (some (16, 0))), some (.inl x1), some (.inl x2), some (.inl x3), some (.inl x4), x5], [.inl x4, .inr (some (19, 0))], (S, d))) rfl ?_
      obtain ⟨j2, ej2, lj2, h⟩ := h
      refine zwp_ldx (n := 1300) (cd := 1216) (i := 0) (pc' := 33) (ls := [some (.inr (some (16, 0))), some (.inl x1), some (.inl x2), some (.inl x3), some (.inl x4), x5]) (r := []) (t := (S, d)) rfl ej2 lj2 (by decide) ?_
      refine zwp_blk 1 (c' := (34, [some (.inr (some (16, 0))), some (.inl x1), some (.inl x2), some (.inl x3), some (.inl x4), x5], [.inl x1, .inl (S 1216 0 j2)], (S, d))) rfl ?_
      refine zwp_br rfl (fun hb => ?_) (fun hb => ?_)
      · show zwp 100 (132, [some (.inr (some (16, 0))), some (.inl x1), some (.inl x2), some (.inl x3), some (.inl x4), x5], [], (S, d)) Q
        replace h := h.2 (zne_t hb)
        refine zwp_blk 2 (c' := (10, [some (.inr (some (16, 0))), some (.inl x1), some (.inl x2), some (.inl x3), some (.inl (x4 + zint (-1))), x5], [], (S, d))) rfl ?_
        exact h
      · show zwp 100 (37, [some (.inr (some (16, 0))), some (.inl x1), some (.inl x2), some (.inl x3), some (.inl x4), x5], [], (S, d)) Q
        replace h := h.1 (zne_f hb)
        refine zwp_blk 3 (c' := (43, [some (.inr (some (16, 0))), some (.inl x1), some (.inl x2), some (.inl x3), some (.inl x4), x5], [.inl x4, .inr (some (24, 0))], (S, d))) rfl ?_
        obtain ⟨j3, ej3, lj3, h⟩ := h
        refine zwp_ldx (n := 1300) (cd := 1536) (i := 0) (pc' := 44) (ls := [some (.inr (some (16, 0))), some (.inl x1), some (.inl x2), some (.inl x3), some (.inl x4), x5]) (r := []) (t := (S, d)) rfl ej3 lj3 (by decide) ?_
        refine zwp_br rfl (fun hb => ?_) (fun hb => ?_)
        · show zwp 100 (132, [some (.inr (some (16, 0))), some (.inl x1), some (.inl x2), some (.inl x3), some (.inl x4), x5], [], (S, d)) Q
          replace h := h.2 (zne_t hb)
          refine zwp_blk 2 (c' := (10, [some (.inr (some (16, 0))), some (.inl x1), some (.inl x2), some (.inl x3), some (.inl (x4 + zint (-1))), x5], [], (S, d))) rfl ?_
          exact h
        · show zwp 100 (47, [some (.inr (some (16, 0))), some (.inl x1), some (.inl x2), some (.inl x3), some (.inl x4), x5], [], (S, d)) Q
          replace h := h.1 (zne_f hb)
          refine zwp_blk 2 (c' := (50, [some (.inr (some (16, 0))), some (.inl x1), some (.inl x2), some (.inl x3), some (.inl x4), x5], [.inl x4, .inr (some (16, 0))], (S, d))) rfl ?_
          exact zwp_call rfl h
theorem w100_53 {S : zS} {d : Nat} {Q : zO → zT → Prop} {x1 : Int32} {x2 : Int32} {x3 : Int32} {x4 : Int32} {x5 : Option zV} {y0 : Int32} (h : (y0 = 0 → ∃ j1 : Nat, x4 = nI j1 ∧ j1 < 1300 ∧ (((S 1408 0 j1) = 0 → ∃ j2 : Nat, x4 = nI j2 ∧ j2 < 1300 ∧ (zwp 93 (0, zent 93 [.inr (some (16, 0)), .inl (S 1280 0 j2)], [], (zu S 1054 0 0 x4, d)) (zaf 100 109 [some (.inr (some (16, 0))), some (.inl x1), some (.inl x2), some (.inl (x3 + nI 1)), some (.inl x4), x5] [] Q))) ∧ (¬ (S 1408 0 j1) = 0 → ∃ j3 : Nat, x4 = nI j3 ∧ j3 < 1300 ∧ (∃ j4 : Nat, x4 = nI j4 ∧ j4 < 1300 ∧ (zwp 95 (0, zent 95 [.inr (some (16, 0)), .inl (S 1280 0 j3), .inl (S 1472 0 j4), .inl x1], [], (zu S 1054 0 0 x4, d)) (zaf 100 94 [some (.inr (some (16, 0))), some (.inl x1), some (.inl x2), some (.inl (x3 + nI 1)), some (.inl x4), x5] [] Q)))))) ∧ (¬ y0 = 0 → zwp 100 (10, [some (.inr (some (16, 0))), some (.inl x1), some (.inl x2), some (.inl x3), some (.inl (x4 + zint (-1))), x5], [], (S, d)) Q)) : zwp 100 (53, [some (.inr (some (16, 0))), some (.inl x1), some (.inl x2), some (.inl x3), some (.inl x4), x5], [.inl y0], (S, d)) Q := by
  refine zwp_br rfl (fun hb => ?_) (fun hb => ?_)
  · show zwp 100 (132, [some (.inr (some (16, 0))), some (.inl x1), some (.inl x2), some (.inl x3), some (.inl x4), x5], [], (S, d)) Q
    replace h := h.2 (zne_t hb)
    refine zwp_blk 2 (c' := (10, [some (.inr (some (16, 0))), some (.inl x1), some (.inl x2), some (.inl x3), some (.inl (x4 + zint (-1))), x5], [], (S, d))) rfl ?_
    exact h
  · show zwp 100 (56, [some (.inr (some (16, 0))), some (.inl x1), some (.inl x2), some (.inl x3), some (.inl x4), x5], [], (S, d)) Q
    replace h := h.1 (zne_f hb)
    refine zwp_blk 7 (c' := (71, [some (.inr (some (16, 0))), some (.inl x1), some (.inl x2), some (.inl (x3 + nI 1)), some (.inl x4), x5], [.inl x4, .inr (some (22, 0))], (zu S 1054 0 0 x4, d))) rfl ?_
    obtain ⟨j1, ej1, lj1, h⟩ := h
    refine zwp_ldx (n := 1300) (cd := 1408) (i := 0) (pc' := 72) (ls := [some (.inr (some (16, 0))), some (.inl x1), some (.inl x2), some (.inl (x3 + nI 1)), some (.inl x4), x5]) (r := []) (t := (zu S 1054 0 0 x4, d)) rfl ej1 lj1 (by decide) ?_
    refine zwp_br rfl (fun hb => ?_) (fun hb => ?_)
    · show zwp 100 (98, [some (.inr (some (16, 0))), some (.inl x1), some (.inl x2), some (.inl (x3 + nI 1)), some (.inl x4), x5], [], (zu S 1054 0 0 x4, d)) Q
      replace h := h.1 (of_decide_eq_true hb)
      refine zwp_blk 4 (c' := (105, [some (.inr (some (16, 0))), some (.inl x1), some (.inl x2), some (.inl (x3 + nI 1)), some (.inl x4), x5], [.inl x4, .inr (some (20, 0)), .inr (some (16, 0))], (zu S 1054 0 0 x4, d))) rfl ?_
      obtain ⟨j2, ej2, lj2, h⟩ := h
      refine zwp_ldx (n := 1300) (cd := 1280) (i := 0) (pc' := 106) (ls := [some (.inr (some (16, 0))), some (.inl x1), some (.inl x2), some (.inl (x3 + nI 1)), some (.inl x4), x5]) (r := [.inr (some (16, 0))]) (t := (zu S 1054 0 0 x4, d)) rfl ej2 lj2 (by decide) ?_
      exact zwp_call rfl h
    · show zwp 100 (75, [some (.inr (some (16, 0))), some (.inl x1), some (.inl x2), some (.inl (x3 + nI 1)), some (.inl x4), x5], [], (zu S 1054 0 0 x4, d)) Q
      replace h := h.2 (of_decide_eq_false hb)
      refine zwp_blk 4 (c' := (82, [some (.inr (some (16, 0))), some (.inl x1), some (.inl x2), some (.inl (x3 + nI 1)), some (.inl x4), x5], [.inl x4, .inr (some (20, 0)), .inr (some (16, 0))], (zu S 1054 0 0 x4, d))) rfl ?_
      obtain ⟨j3, ej3, lj3, h⟩ := h
      refine zwp_ldx (n := 1300) (cd := 1280) (i := 0) (pc' := 83) (ls := [some (.inr (some (16, 0))), some (.inl x1), some (.inl x2), some (.inl (x3 + nI 1)), some (.inl x4), x5]) (r := [.inr (some (16, 0))]) (t := (zu S 1054 0 0 x4, d)) rfl ej3 lj3 (by decide) ?_
      refine zwp_blk 3 (c' := (89, [some (.inr (some (16, 0))), some (.inl x1), some (.inl x2), some (.inl (x3 + nI 1)), some (.inl x4), x5], [.inl x4, .inr (some (23, 0)), .inl (S 1280 0 j3), .inr (some (16, 0))], (zu S 1054 0 0 x4, d))) rfl ?_
      obtain ⟨j4, ej4, lj4, h⟩ := h
      refine zwp_ldx (n := 1300) (cd := 1472) (i := 0) (pc' := 90) (ls := [some (.inr (some (16, 0))), some (.inl x1), some (.inl x2), some (.inl (x3 + nI 1)), some (.inl x4), x5]) (r := [.inl (S 1280 0 j3), .inr (some (16, 0))]) (t := (zu S 1054 0 0 x4, d)) rfl ej4 lj4 (by decide) ?_
      refine zwp_blk 1 (c' := (91, [some (.inr (some (16, 0))), some (.inl x1), some (.inl x2), some (.inl (x3 + nI 1)), some (.inl x4), x5], [.inl x1, .inl (S 1472 0 j4), .inl (S 1280 0 j3), .inr (some (16, 0))], (zu S 1054 0 0 x4, d))) rfl ?_
      exact zwp_call rfl h
theorem w100_94 {S : zS} {d : Nat} {Q : zO → zT → Prop} {x1 : Int32} {x2 : Int32} {x3 : Int32} {x4 : Int32} {x5 : Option zV} {y0 : Int32} (h : zwp 100 (127, [some (.inr (some (16, 0))), some (.inl x1), some (.inl x2), some (.inl x3), some (.inl x4), x5], [], (S, d)) Q) : zwp 100 (94, [some (.inr (some (16, 0))), some (.inl x1), some (.inl x2), some (.inl x3), some (.inl x4), x5], [.inl y0], (S, d)) Q := by
  refine zwp_blk 2 (c' := (127, [some (.inr (some (16, 0))), some (.inl x1), some (.inl x2), some (.inl x3), some (.inl x4), x5], [], (S, d))) rfl ?_
  exact h
theorem w100_109 {S : zS} {d : Nat} {Q : zO → zT → Prop} {x1 : Int32} {x2 : Int32} {x3 : Int32} {x4 : Int32} {x5 : Option zV} {y0 : Int32} (h : ∃ j1 : Nat, x4 = nI j1 ∧ j1 < 1300 ∧ (zwp 94 (0, zent 94 [.inr (some (16, 0)), .inl (nI 2), .inl y0, .inl (S 1280 0 j1), .inl (nI 0), .inl x1], [], (S, d)) (zaf 100 127 [some (.inr (some (16, 0))), some (.inl x1), some (.inl x2), some (.inl x3), some (.inl x4), some (.inl y0)] [] Q))) : zwp 100 (109, [some (.inr (some (16, 0))), some (.inl x1), some (.inl x2), some (.inl x3), some (.inl x4), x5], [.inl y0], (S, d)) Q := by
  refine zwp_blk 7 (c' := (121, [some (.inr (some (16, 0))), some (.inl x1), some (.inl x2), some (.inl x3), some (.inl x4), some (.inl y0)], [.inl x4, .inr (some (20, 0)), .inl y0, .inl (nI 2), .inr (some (16, 0))], (S, d))) rfl ?_
  obtain ⟨j1, ej1, lj1, h⟩ := h
  refine zwp_ldx (n := 1300) (cd := 1280) (i := 0) (pc' := 122) (ls := [some (.inr (some (16, 0))), some (.inl x1), some (.inl x2), some (.inl x3), some (.inl x4), some (.inl y0)]) (r := [.inl y0, .inl (nI 2), .inr (some (16, 0))]) (t := (S, d)) rfl ej1 lj1 (by decide) ?_
  refine zwp_blk 2 (c' := (124, [some (.inr (some (16, 0))), some (.inl x1), some (.inl x2), some (.inl x3), some (.inl x4), some (.inl y0)], [.inl x1, .inl (nI 0), .inl (S 1280 0 j1), .inl y0, .inl (nI 2), .inr (some (16, 0))], (S, d))) rfl ?_
  exact zwp_call rfl h
theorem w100_127 {S : zS} {d : Nat} {Q : zO → zT → Prop} {x1 : Int32} {x2 : Int32} {x3 : Int32} {x4 : Int32} {x5 : Option zV} (h : zwp 100 (10, [some (.inr (some (16, 0))), some (.inl x1), some (.inl x2), some (.inl x3), some (.inl (x4 + zint (-1))), x5], [], (zu S 1054 0 0 (nI 0), d)) Q) : zwp 100 (127, [some (.inr (some (16, 0))), some (.inl x1), some (.inl x2), some (.inl x3), some (.inl x4), x5], [], (S, d)) Q := by
  refine zwp_blk 5 (c' := (10, [some (.inr (some (16, 0))), some (.inl x1), some (.inl x2), some (.inl x3), some (.inl (x4 + zint (-1))), x5], [], (zu S 1054 0 0 (nI 0), d))) rfl ?_
  exact h
theorem w100_145 {S : zS} {d : Nat} {Q : zO → zT → Prop} {x1 : Int32} {x2 : Int32} {x3 : Int32} {x4 : Int32} {x5 : Option zV} {y0 : Int32} (h : ∃ j1 : Nat, y0 = nI j1 ∧ j1 < 1300 ∧ (Q (.inl (some (.inl x3))) (zu S 1216 0 j1 (vp_nar .short x1.toInt16.toInt32), d))) : zwp 100 (145, [some (.inr (some (16, 0))), some (.inl x1), some (.inl x2), some (.inl x3), some (.inl x4), x5], [.inl y0], (S, d)) Q := by
  refine zwp_blk 6 (c' := (155, [some (.inr (some (16, 0))), some (.inl x1), some (.inl x2), some (.inl x3), some (.inl y0), x5], [.inl x1.toInt16.toInt32, .inl y0, .inr (some (19, 0))], (S, d))) rfl ?_
  obtain ⟨j1, ej1, lj1, h⟩ := h
  refine zwp_stx (n := 1300) (cd := 1216) (i := 0) (v := vp_nar .short x1.toInt16.toInt32) (pc' := 156) (ls := [some (.inr (some (16, 0))), some (.inl x1), some (.inl x2), some (.inl x3), some (.inl y0), x5]) (r := []) (t := (S, d)) rfl ej1 lj1 (by decide) ?_
  refine zwp_blk 1 (c' := (157, [some (.inr (some (16, 0))), some (.inl x1), some (.inl x2), some (.inl x3), some (.inl y0), x5], [.inl x3], (zu S 1216 0 j1 (vp_nar .short x1.toInt16.toInt32), d))) rfl ?_
  exact zwp_end rfl h
-- 101 PageKeeperModel.clear
theorem w101_0 {S : zS} {d : Nat} {Q : zO → zT → Prop} {x1 : Int32} (h : zwp 101 (2, [some (.inr (some (16, 0))), some (.inl x1), some (.inl (nI 1)), none, none], [], (S, d)) Q) : zwp 101 (0, [some (.inr (some (16, 0))), some (.inl x1), none, none, none], [], (S, d)) Q := by
  refine zwp_blk 2 (c' := (2, [some (.inr (some (16, 0))), some (.inl x1), some (.inl (nI 1)), none, none], [], (S, d))) rfl ?_
  exact h
theorem w101_2 {S : zS} {d : Nat} {Q : zO → zT → Prop} {x1 : Int32} {x2 : Int32} {x3 : Option zV} {x4 : Option zV} (h : ((S 1053 0 0) < x2 → Q (.inl none) (S, d)) ∧ (¬ (S 1053 0 0) < x2 → zwp 101 (15, [some (.inr (some (16, 0))), some (.inl x1), some (.inl x2), some (.inl (nI 0)), some (.inl (nI 1))], [], (S, d)) Q)) : zwp 101 (2, [some (.inr (some (16, 0))), some (.inl x1), some (.inl x2), x3, x4], [], (S, d)) Q := by
  refine zwp_blk 3 (c' := (7, [some (.inr (some (16, 0))), some (.inl x1), some (.inl x2), x3, x4], [.inl (S 1053 0 0), .inl x2], (S, d))) rfl ?_
  refine zwp_br rfl (fun hb => ?_) (fun hb => ?_)
  · show zwp 101 (97, [some (.inr (some (16, 0))), some (.inl x1), some (.inl x2), x3, x4], [], (S, d)) Q
    replace h := h.1 (of_decide_eq_true hb)
    exact zwp_end rfl h
  · show zwp 101 (10, [some (.inr (some (16, 0))), some (.inl x1), some (.inl x2), x3, x4], [], (S, d)) Q
    replace h := h.2 (of_decide_eq_false hb)
    refine zwp_blk 4 (c' := (15, [some (.inr (some (16, 0))), some (.inl x1), some (.inl x2), some (.inl (nI 0)), some (.inl (nI 1))], [], (S, d))) rfl ?_
    exact h
theorem w101_15 {S : zS} {d : Nat} {Q : zO → zT → Prop} {x1 : Int32} {x2 : Int32} {x3 : Int32} {x4 : Int32} (h : ((S 1025 0 0) < x4 → (x3 = 0 → zwp 101 (2, [some (.inr (some (16, 0))), some (.inl x1), some (.inl (x2 + nI 1)), some (.inl x3), some (.inl x4)], [], (S, d)) Q) ∧ (¬ x3 = 0 → zwp 98 (0, zent 98 [.inr (some (16, 0)), .inl x2], [], (S, d)) (zaf 101 82 [some (.inr (some (16, 0))), some (.inl x1), some (.inl x2), some (.inl x3), some (.inl x4)] [] Q))) ∧ (¬ (S 1025 0 0) < x4 → (x3 = 0 → ∃ j1 : Nat, x4 = nI j1 ∧ j1 < 1300 ∧ (((nI 2) < (S 1088 0 j1) → zwp 101 (15, [some (.inr (some (16, 0))), some (.inl x1), some (.inl x2), some (.inl (nI 0)), some (.inl (x4 + nI 1))], [], (S, d)) Q) ∧ (¬ (nI 2) < (S 1088 0 j1) → ∃ j2 : Nat, x4 = nI j2 ∧ j2 < 1300 ∧ (((S 1216 0 j2) = x2 → ∃ j3 : Nat, x4 = nI j3 ∧ j3 < 1300 ∧ (((S 1280 0 j3) = x1 → zwp 101 (15, [some (.inr (some (16, 0))), some (.inl x1), some (.inl x2), some (.inl (nI 1)), some (.inl (x4 + nI 1))], [], (S, d)) Q) ∧ (¬ (S 1280 0 j3) = x1 → zwp 101 (15, [some (.inr (some (16, 0))), some (.inl x1), some (.inl x2), some (.inl (nI 0)), some (.inl (x4 + nI 1))], [], (S, d)) Q))) ∧ (¬ (S 1216 0 j2) = x2 → zwp 101 (15, [some (.inr (some (16, 0))), some (.inl x1), some (.inl x2), some (.inl (nI 0)), some (.inl (x4 + nI 1))], [], (S, d)) Q))))) ∧ (¬ x3 = 0 → zwp 101 (15, [some (.inr (some (16, 0))), some (.inl x1), some (.inl x2), some (.inl (nI 1)), some (.inl (x4 + nI 1))], [], (S, d)) Q))) : zwp 101 (15, [some (.inr (some (16, 0))), some (.inl x1), some (.inl x2), some (.inl x3), some (.inl x4)], [], (S, d)) Q := by
  refine zwp_blk 3 (c' := (21, [some (.inr (some (16, 0))), some (.inl x1), some (.inl x2), some (.inl x3), some (.inl x4)], [.inl (S 1025 0 0), .inl x4], (S, d))) rfl ?_
  refine zwp_br rfl (fun hb => ?_) (fun hb => ?_)
  · show zwp 101 (73, [some (.inr (some (16, 0))), some (.inl x1), some (.inl x2), some (.inl x3), some (.inl x4)], [], (S, d)) Q
    replace h := h.1 (of_decide_eq_true hb)
    refine zwp_blk 1 (c' := (74, [some (.inr (some (16, 0))), some (.inl x1), some (.inl x2), some (.inl x3), some (.inl x4)], [.inl x3], (S, d))) rfl ?_
    refine zwp_br rfl (fun hb => ?_) (fun hb => ?_)
    · show zwp 101 (91, [some (.inr (some (16, 0))), some (.inl x1), some (.inl x2), some (.inl x3), some (.inl x4)], [], (S, d)) Q
      replace h := h.1 (of_decide_eq_true hb)
      refine zwp_blk 2 (c' := (2, [some (.inr (some (16, 0))), some (.inl x1), some (.inl (x2 + nI 1)), some (.inl x3), some (.inl x4)], [], (S, d))) rfl ?_
      exact h
    · show zwp 101 (77, [some (.inr (some (16, 0))), some (.inl x1), some (.inl x2), some (.inl x3), some (.inl x4)], [], (S, d)) Q
      replace h := h.2 (of_decide_eq_false hb)
      refine zwp_blk 2 (c' := (79, [some (.inr (some (16, 0))), some (.inl x1), some (.inl x2), some (.inl x3), some (.inl x4)], [.inl x2, .inr (some (16, 0))], (S, d))) rfl ?_
      exact zwp_call rfl h
  · show zwp 101 (24, [some (.inr (some (16, 0))), some (.inl x1), some (.inl x2), some (.inl x3), some (.inl x4)], [], (S, d)) Q
    replace h := h.2 (of_decide_eq_false hb)
    refine zwp_blk 1 (c' := (25, [some (.inr (some (16, 0))), some (.inl x1), some (.inl x2), some (.inl x3), some (.inl x4)], [.inl x3], (S, d))) rfl ?_
    refine zwp_br rfl (fun hb => ?_) (fun hb => ?_)
    · show zwp 101 (61, [some (.inr (some (16, 0))), some (.inl x1), some (.inl x2), some (.inl x3), some (.inl x4)], [], (S, d)) Q
      replace h := h.2 (zne_t hb)
      refine zwp_blk 5 (c' := (15, [some (.inr (some (16, 0))), some (.inl x1), some (.inl x2), some (.inl (nI 1)), some (.inl (x4 + nI 1))], [], (S, d))) rfl ?_
      exact h
    · show zwp 101 (28, [some (.inr (some (16, 0))), some (.inl x1), some (.inl x2), some (.inl x3), some (.inl x4)], [], (S, d)) Q
      replace h := h.1 (zne_f hb)
      refine zwp_blk 3 (c' := (34, [some (.inr (some (16, 0))), some (.inl x1), some (.inl x2), some (.inl x3), some (.inl x4)], [.inl x4, .inr (some (17, 0))], (S, d))) rfl ?_
      obtain ⟨j1, ej1, lj1, h⟩ := h
      refine zwp_ldx (n := 1300) (cd := 1088) (i := 0) (pc' := 35) (ls := [some (.inr (some (16, 0))), some (.inl x1), some (.inl x2), some (.inl x3), some (.inl x4)]) (r := []) (t := (S, d)) rfl ej1 lj1 (by decide) ?_
      refine zwp_blk 1 (c' := (36, [some (.inr (some (16, 0))), some (.inl x1), some (.inl x2), some (.inl x3), some (.inl x4)], [.inl (nI 2), .inl (S 1088 0 j1)], (S, d))) rfl ?_
      refine zwp_br rfl (fun hb => ?_) (fun hb => ?_)
      · show zwp 101 (65, [some (.inr (some (16, 0))), some (.inl x1), some (.inl x2), some (.inl x3), some (.inl x4)], [], (S, d)) Q
        replace h := h.1 (of_decide_eq_true hb)
        refine zwp_blk 4 (c' := (15, [some (.inr (some (16, 0))), some (.inl x1), some (.inl x2), some (.inl (nI 0)), some (.inl (x4 + nI 1))], [], (S, d))) rfl ?_
        exact h
      · show zwp 101 (39, [some (.inr (some (16, 0))), some (.inl x1), some (.inl x2), some (.inl x3), some (.inl x4)], [], (S, d)) Q
        replace h := h.2 (of_decide_eq_false hb)
        refine zwp_blk 3 (c' := (45, [some (.inr (some (16, 0))), some (.inl x1), some (.inl x2), some (.inl x3), some (.inl x4)], [.inl x4, .inr (some (19, 0))], (S, d))) rfl ?_
        obtain ⟨j2, ej2, lj2, h⟩ := h
        refine zwp_ldx (n := 1300) (cd := 1216) (i := 0) (pc' := 46) (ls := [some (.inr (some (16, 0))), some (.inl x1), some (.inl x2), some (.inl x3), some (.inl x4)]) (r := []) (t := (S, d)) rfl ej2 lj2 (by decide) ?_
        refine zwp_blk 1 (c' := (47, [some (.inr (some (16, 0))), some (.inl x1), some (.inl x2), some (.inl x3), some (.inl x4)], [.inl x2, .inl (S 1216 0 j2)], (S, d))) rfl ?_
        refine zwp_br rfl (fun hb => ?_) (fun hb => ?_)
        · show zwp 101 (65, [some (.inr (some (16, 0))), some (.inl x1), some (.inl x2), some (.inl x3), some (.inl x4)], [], (S, d)) Q
          replace h := h.2 (zne_t hb)
          refine zwp_blk 4 (c' := (15, [some (.inr (some (16, 0))), some (.inl x1), some (.inl x2), some (.inl (nI 0)), some (.inl (x4 + nI 1))], [], (S, d))) rfl ?_
          exact h
        · show zwp 101 (50, [some (.inr (some (16, 0))), some (.inl x1), some (.inl x2), some (.inl x3), some (.inl x4)], [], (S, d)) Q
          replace h := h.1 (zne_f hb)
          refine zwp_blk 3 (c' := (56, [some (.inr (some (16, 0))), some (.inl x1), some (.inl x2), some (.inl x3), some (.inl x4)], [.inl x4, .inr (some (20, 0))], (S, d))) rfl ?_
          obtain ⟨j3, ej3, lj3, h⟩ := h
          refine zwp_ldx (n := 1300) (cd := 1280) (i := 0) (pc' := 57) (ls := [some (.inr (some (16, 0))), some (.inl x1), some (.inl x2), some (.inl x3), some (.inl x4)]) (r := []) (t := (S, d)) rfl ej3 lj3 (by decide) ?_
          refine zwp_blk 1 (c' := (58, [some (.inr (some (16, 0))), some (.inl x1), some (.inl x2), some (.inl x3), some (.inl x4)], [.inl x1, .inl (S 1280 0 j3)], (S, d))) rfl ?_
          refine zwp_br rfl (fun hb => ?_) (fun hb => ?_)
          · show zwp 101 (65, [some (.inr (some (16, 0))), some (.inl x1), some (.inl x2), some (.inl x3), some (.inl x4)], [], (S, d)) Q
            replace h := h.2 (zne_t hb)
            refine zwp_blk 4 (c' := (15, [some (.inr (some (16, 0))), some (.inl x1), some (.inl x2), some (.inl (nI 0)), some (.inl (x4 + nI 1))], [], (S, d))) rfl ?_
            exact h
          · show zwp 101 (61, [some (.inr (some (16, 0))), some (.inl x1), some (.inl x2), some (.inl x3), some (.inl x4)], [], (S, d)) Q
            replace h := h.1 (zne_f hb)
            refine zwp_blk 5 (c' := (15, [some (.inr (some (16, 0))), some (.inl x1), some (.inl x2), some (.inl (nI 1)), some (.inl (x4 + nI 1))], [], (S, d))) rfl ?_
            exact h
theorem w101_82 {S : zS} {d : Nat} {Q : zO → zT → Prop} {x1 : Int32} {x2 : Int32} {x3 : Int32} {x4 : Int32} {y0 : Int32} (h : (y0 = 0 → zwp 101 (2, [some (.inr (some (16, 0))), some (.inl x1), some (.inl (x2 + nI 1)), some (.inl x3), some (.inl x4)], [], (S, d)) Q) ∧ (¬ y0 = 0 → zwp 100 (0, zent 100 [.inr (some (16, 0)), .inl x2], [], (S, d)) (zaf 101 90 [some (.inr (some (16, 0))), some (.inl x1), some (.inl x2), some (.inl x3), some (.inl x4)] [] Q))) : zwp 101 (82, [some (.inr (some (16, 0))), some (.inl x1), some (.inl x2), some (.inl x3), some (.inl x4)], [.inl y0], (S, d)) Q := by
  refine zwp_br rfl (fun hb => ?_) (fun hb => ?_)
  · show zwp 101 (91, [some (.inr (some (16, 0))), some (.inl x1), some (.inl x2), some (.inl x3), some (.inl x4)], [], (S, d)) Q
    replace h := h.1 (of_decide_eq_true hb)
    refine zwp_blk 2 (c' := (2, [some (.inr (some (16, 0))), some (.inl x1), some (.inl (x2 + nI 1)), some (.inl x3), some (.inl x4)], [], (S, d))) rfl ?_
    exact h
  · show zwp 101 (85, [some (.inr (some (16, 0))), some (.inl x1), some (.inl x2), some (.inl x3), some (.inl x4)], [], (S, d)) Q
    replace h := h.2 (of_decide_eq_false hb)
    refine zwp_blk 2 (c' := (87, [some (.inr (some (16, 0))), some (.inl x1), some (.inl x2), some (.inl x3), some (.inl x4)], [.inl x2, .inr (some (16, 0))], (S, d))) rfl ?_
    exact zwp_call rfl h
theorem w101_90 {S : zS} {d : Nat} {Q : zO → zT → Prop} {x1 : Int32} {x2 : Int32} {x3 : Int32} {x4 : Int32} {y0 : Int32} (h : zwp 101 (2, [some (.inr (some (16, 0))), some (.inl x1), some (.inl (x2 + nI 1)), some (.inl x3), some (.inl x4)], [], (S, d)) Q) : zwp 101 (90, [some (.inr (some (16, 0))), some (.inl x1), some (.inl x2), some (.inl x3), some (.inl x4)], [.inl y0], (S, d)) Q := by
  refine zwp_blk 3 (c' := (2, [some (.inr (some (16, 0))), some (.inl x1), some (.inl (x2 + nI 1)), some (.inl x3), some (.inl x4)], [], (S, d))) rfl ?_
  exact h
-- 102 PageKeeperModel.gets
theorem w102_0 {S : zS} {d : Nat} {Q : zO → zT → Prop} {x1 : Int32} {x2 : Int32} {x3 : Int32} (h : ∃ j1 : Nat, ((nI 40) * x1) + x2 = nI j1 ∧ j1 < 160 ∧ (((S 2176 0 j1) < x3 → zwp 101 (0, zent 101 [.inr (some (16, 0)), .inl x2], [], (S, d)) (zaf 102 22 [some (.inr (some (16, 0))), some (.inl x1), some (.inl x2), some (.inl x3), none, none] [] Q)) ∧ (¬ (S 2176 0 j1) < x3 → Q (.inl (some (.inl (nI 1)))) (S, d)))) : zwp 102 (0, [some (.inr (some (16, 0))), some (.inl x1), some (.inl x2), some (.inl x3), none, none], [], (S, d)) Q := by
  refine zwp_blk 7 (c' := (10, [some (.inr (some (16, 0))), some (.inl x1), some (.inl x2), some (.inl x3), none, none], [.inl (((nI 40) * x1) + x2), .inr (some (34, 0))], (S, d))) rfl ?_
  obtain ⟨j1, ej1, lj1, h⟩ := h
  refine zwp_ldx (n := 160) (cd := 2176) (i := 0) (pc' := 11) (ls := [some (.inr (some (16, 0))), some (.inl x1), some (.inl x2), some (.inl x3), none, none]) (r := []) (t := (S, d)) rfl ej1 lj1 (by decide) ?_
  refine zwp_blk 1 (c' := (12, [some (.inr (some (16, 0))), some (.inl x1), some (.inl x2), some (.inl x3), none, none], [.inl x3, .inl (S 2176 0 j1)], (S, d))) rfl ?_
  refine zwp_br rfl (fun hb => ?_) (fun hb => ?_)
  · show zwp 102 (17, [some (.inr (some (16, 0))), some (.inl x1), some (.inl x2), some (.inl x3), none, none], [], (S, d)) Q
    replace h := h.1 (of_decide_eq_true hb)
    refine zwp_blk 2 (c' := (19, [some (.inr (some (16, 0))), some (.inl x1), some (.inl x2), some (.inl x3), none, none], [.inl x2, .inr (some (16, 0))], (S, d))) rfl ?_
    exact zwp_call rfl h
  · show zwp 102 (15, [some (.inr (some (16, 0))), some (.inl x1), some (.inl x2), some (.inl x3), none, none], [], (S, d)) Q
    replace h := h.2 (of_decide_eq_false hb)
    refine zwp_blk 1 (c' := (16, [some (.inr (some (16, 0))), some (.inl x1), some (.inl x2), some (.inl x3), none, none], [.inl (nI 1)], (S, d))) rfl ?_
    exact zwp_ret01 (x := nI 1) rfl (by decide) h
theorem w102_22 {S : zS} {d : Nat} {Q : zO → zT → Prop} {x1 : Int32} {x2 : Int32} {x3 : Int32} (h : zwp 102 (25, [some (.inr (some (16, 0))), some (.inl x1), some (.inl x2), some (.inl x3), some (.inl (nI 0)), none], [], (S, d)) Q) : zwp 102 (22, [some (.inr (some (16, 0))), some (.inl x1), some (.inl x2), some (.inl x3), none, none], [], (S, d)) Q := by
  refine zwp_blk 2 (c' := (25, [some (.inr (some (16, 0))), some (.inl x1), some (.inl x2), some (.inl x3), some (.inl (nI 0)), none], [], (S, d))) rfl ?_
  exact h
theorem w102_25 {S : zS} {d : Nat} {Q : zO → zT → Prop} {x1 : Int32} {x2 : Int32} {x3 : Int32} {x4 : Int32} {x5 : Option zV} (h : ((nI 4) ≤ x4 → ∃ j1 : Nat, ((nI 40) * x1) + x2 = nI j1 ∧ j1 < 160 ∧ (Q (.inl (some (.inl (nI 1)))) (zu S 2176 0 j1 (vp_nar .byte x3.toInt8.toInt32), d))) ∧ (¬ (nI 4) ≤ x4 → ∃ j2 : Nat, ((nI 40) * x4) + x2 = nI j2 ∧ j2 < 160 ∧ ((x4 = x1 → zwp 102 (25, [some (.inr (some (16, 0))), some (.inl x1), some (.inl x2), some (.inl x3), some (.inl (x4 + nI 1)), some (.inl (S 2176 0 j2))], [], (S, d)) Q) ∧ (¬ x4 = x1 → ((S 2176 0 j2) ≤ 0 → zwp 102 (25, [some (.inr (some (16, 0))), some (.inl x1), some (.inl x2), some (.inl x3), some (.inl (x4 + nI 1)), some (.inl (S 2176 0 j2))], [], (S, d)) Q) ∧ (¬ (S 2176 0 j2) ≤ 0 → ((S 2176 0 j2) = (nI 2) → Q (.inl (some (.inl (nI 0)))) (S, d)) ∧ (¬ (S 2176 0 j2) = (nI 2) → (x3 = (nI 2) → Q (.inl (some (.inl (nI 0)))) (S, d)) ∧ (¬ x3 = (nI 2) → zwp 102 (25, [some (.inr (some (16, 0))), some (.inl x1), some (.inl x2), some (.inl x3), some (.inl (x4 + nI 1)), some (.inl (S 2176 0 j2))], [], (S, d)) Q))))))) : zwp 102 (25, [some (.inr (some (16, 0))), some (.inl x1), some (.inl x2), some (.inl x3), some (.inl x4), x5], [], (S, d)) Q := by
  refine zwp_blk 2 (c' := (28, [some (.inr (some (16, 0))), some (.inl x1), some (.inl x2), some (.inl x3), some (.inl x4), x5], [.inl (nI 4), .inl x4], (S, d))) rfl ?_
  refine zwp_br rfl (fun hb => ?_) (fun hb => ?_)
  · show zwp 102 (75, [some (.inr (some (16, 0))), some (.inl x1), some (.inl x2), some (.inl x3), some (.inl x4), x5], [], (S, d)) Q
    replace h := h.1 (of_decide_eq_true hb)
    refine zwp_blk 9 (c' := (87, [some (.inr (some (16, 0))), some (.inl x1), some (.inl x2), some (.inl x3), some (.inl x4), x5], [.inl x3.toInt8.toInt32, .inl (((nI 40) * x1) + x2), .inr (some (34, 0))], (S, d))) rfl ?_
    obtain ⟨j1, ej1, lj1, h⟩ := h
    refine zwp_stx (n := 160) (cd := 2176) (i := 0) (v := vp_nar .byte x3.toInt8.toInt32) (pc' := 88) (ls := [some (.inr (some (16, 0))), some (.inl x1), some (.inl x2), some (.inl x3), some (.inl x4), x5]) (r := []) (t := (S, d)) rfl ej1 lj1 (by decide) ?_
    refine zwp_blk 1 (c' := (89, [some (.inr (some (16, 0))), some (.inl x1), some (.inl x2), some (.inl x3), some (.inl x4), x5], [.inl (nI 1)], (zu S 2176 0 j1 (vp_nar .byte x3.toInt8.toInt32), d))) rfl ?_
    exact zwp_ret01 (x := nI 1) rfl (by decide) h
  · show zwp 102 (31, [some (.inr (some (16, 0))), some (.inl x1), some (.inl x2), some (.inl x3), some (.inl x4), x5], [], (S, d)) Q
    replace h := h.2 (of_decide_eq_false hb)
    refine zwp_blk 7 (c' := (42, [some (.inr (some (16, 0))), some (.inl x1), some (.inl x2), some (.inl x3), some (.inl x4), x5], [.inl (((nI 40) * x4) + x2), .inr (some (34, 0))], (S, d))) rfl ?_
    obtain ⟨j2, ej2, lj2, h⟩ := h
    refine zwp_ldx (n := 160) (cd := 2176) (i := 0) (pc' := 43) (ls := [some (.inr (some (16, 0))), some (.inl x1), some (.inl x2), some (.inl x3), some (.inl x4), x5]) (r := []) (t := (S, d)) rfl ej2 lj2 (by decide) ?_
    refine zwp_blk 3 (c' := (48, [some (.inr (some (16, 0))), some (.inl x1), some (.inl x2), some (.inl x3), some (.inl x4), some (.inl (S 2176 0 j2))], [.inl x1, .inl x4], (S, d))) rfl ?_
    refine zwp_br rfl (fun hb => ?_) (fun hb => ?_)
    · show zwp 102 (69, [some (.inr (some (16, 0))), some (.inl x1), some (.inl x2), some (.inl x3), some (.inl x4), some (.inl (S 2176 0 j2))], [], (S, d)) Q
      replace h := h.1 (of_decide_eq_true hb)
      refine zwp_blk 2 (c' := (25, [some (.inr (some (16, 0))), some (.inl x1), some (.inl x2), some (.inl x3), some (.inl (x4 + nI 1)), some (.inl (S 2176 0 j2))], [], (S, d))) rfl ?_
      exact h
    · show zwp 102 (51, [some (.inr (some (16, 0))), some (.inl x1), some (.inl x2), some (.inl x3), some (.inl x4), some (.inl (S 2176 0 j2))], [], (S, d)) Q
      replace h := h.2 (of_decide_eq_false hb)
      refine zwp_blk 1 (c' := (53, [some (.inr (some (16, 0))), some (.inl x1), some (.inl x2), some (.inl x3), some (.inl x4), some (.inl (S 2176 0 j2))], [.inl (S 2176 0 j2)], (S, d))) rfl ?_
      refine zwp_br rfl (fun hb => ?_) (fun hb => ?_)
      · show zwp 102 (69, [some (.inr (some (16, 0))), some (.inl x1), some (.inl x2), some (.inl x3), some (.inl x4), some (.inl (S 2176 0 j2))], [], (S, d)) Q
        replace h := h.1 (of_decide_eq_true hb)
        refine zwp_blk 2 (c' := (25, [some (.inr (some (16, 0))), some (.inl x1), some (.inl x2), some (.inl x3), some (.inl (x4 + nI 1)), some (.inl (S 2176 0 j2))], [], (S, d))) rfl ?_
        exact h
      · show zwp 102 (56, [some (.inr (some (16, 0))), some (.inl x1), some (.inl x2), some (.inl x3), some (.inl x4), some (.inl (S 2176 0 j2))], [], (S, d)) Q
        replace h := h.2 (of_decide_eq_false hb)
        refine zwp_blk 2 (c' := (59, [some (.inr (some (16, 0))), some (.inl x1), some (.inl x2), some (.inl x3), some (.inl x4), some (.inl (S 2176 0 j2))], [.inl (nI 2), .inl (S 2176 0 j2)], (S, d))) rfl ?_
        refine zwp_br rfl (fun hb => ?_) (fun hb => ?_)
        · show zwp 102 (67, [some (.inr (some (16, 0))), some (.inl x1), some (.inl x2), some (.inl x3), some (.inl x4), some (.inl (S 2176 0 j2))], [], (S, d)) Q
          replace h := h.1 (of_decide_eq_true hb)
          refine zwp_blk 1 (c' := (68, [some (.inr (some (16, 0))), some (.inl x1), some (.inl x2), some (.inl x3), some (.inl x4), some (.inl (S 2176 0 j2))], [.inl (nI 0)], (S, d))) rfl ?_
          exact zwp_ret01 (x := nI 0) rfl (by decide) h
        · show zwp 102 (62, [some (.inr (some (16, 0))), some (.inl x1), some (.inl x2), some (.inl x3), some (.inl x4), some (.inl (S 2176 0 j2))], [], (S, d)) Q
          replace h := h.2 (of_decide_eq_false hb)
          refine zwp_blk 2 (c' := (64, [some (.inr (some (16, 0))), some (.inl x1), some (.inl x2), some (.inl x3), some (.inl x4), some (.inl (S 2176 0 j2))], [.inl (nI 2), .inl x3], (S, d))) rfl ?_
          refine zwp_br rfl (fun hb => ?_) (fun hb => ?_)
          · show zwp 102 (69, [some (.inr (some (16, 0))), some (.inl x1), some (.inl x2), some (.inl x3), some (.inl x4), some (.inl (S 2176 0 j2))], [], (S, d)) Q
            replace h := h.2 (zne_t hb)
            refine zwp_blk 2 (c' := (25, [some (.inr (some (16, 0))), some (.inl x1), some (.inl x2), some (.inl x3), some (.inl (x4 + nI 1)), some (.inl (S 2176 0 j2))], [], (S, d))) rfl ?_
            exact h
          · show zwp 102 (67, [some (.inr (some (16, 0))), some (.inl x1), some (.inl x2), some (.inl x3), some (.inl x4), some (.inl (S 2176 0 j2))], [], (S, d)) Q
            replace h := h.1 (zne_f hb)
            refine zwp_blk 1 (c' := (68, [some (.inr (some (16, 0))), some (.inl x1), some (.inl x2), some (.inl x3), some (.inl x4), some (.inl (S 2176 0 j2))], [.inl (nI 0)], (S, d))) rfl ?_
            exact zwp_ret01 (x := nI 0) rfl (by decide) h
-- 103 PageKeeperModel.leave
theorem w103_0 {S : zS} {d : Nat} {Q : zO → zT → Prop} {x1 : Int32} (h : ∃ j1 : Nat, x1 = nI j1 ∧ j1 < 4 ∧ (zwp 103 (9, [some (.inr (some (16, 0))), some (.inl x1), some (.inl (nI 0))], [], (zu S 2112 0 j1 ((nI 0)), d)) Q)) : zwp 103 (0, [some (.inr (some (16, 0))), some (.inl x1), none], [], (S, d)) Q := by
  refine zwp_blk 4 (c' := (6, [some (.inr (some (16, 0))), some (.inl x1), none], [.inl (nI 0), .inl x1, .inr (some (33, 0))], (S, d))) rfl ?_
  obtain ⟨j1, ej1, lj1, h⟩ := h
  refine zwp_stx (n := 4) (cd := 2112) (i := 0) (v := (nI 0)) (pc' := 7) (ls := [some (.inr (some (16, 0))), some (.inl x1), none]) (r := []) (t := (S, d)) rfl ej1 lj1 (by decide) ?_
  refine zwp_blk 2 (c' := (9, [some (.inr (some (16, 0))), some (.inl x1), some (.inl (nI 0))], [], (zu S 2112 0 j1 ((nI 0)), d))) rfl ?_
  exact h
theorem w103_9 {S : zS} {d : Nat} {Q : zO → zT → Prop} {x1 : Int32} {x2 : Int32} (h : ((nI 40) ≤ x2 → Q (.inl none) (S, d)) ∧ (¬ (nI 40) ≤ x2 → ∃ j1 : Nat, ((nI 40) * x1) + x2 = nI j1 ∧ j1 < 160 ∧ (zwp 103 (9, [some (.inr (some (16, 0))), some (.inl x1), some (.inl (x2 + nI 1))], [], (zu S 2176 0 j1 (vp_nar .byte (nI 0)), d)) Q))) : zwp 103 (9, [some (.inr (some (16, 0))), some (.inl x1), some (.inl x2)], [], (S, d)) Q := by
  refine zwp_blk 2 (c' := (12, [some (.inr (some (16, 0))), some (.inl x1), some (.inl x2)], [.inl (nI 40), .inl x2], (S, d))) rfl ?_
  refine zwp_br rfl (fun hb => ?_) (fun hb => ?_)
  · show zwp 103 (33, [some (.inr (some (16, 0))), some (.inl x1), some (.inl x2)], [], (S, d)) Q
    replace h := h.1 (of_decide_eq_true hb)
    exact zwp_end rfl h
  · show zwp 103 (15, [some (.inr (some (16, 0))), some (.inl x1), some (.inl x2)], [], (S, d)) Q
    replace h := h.2 (of_decide_eq_false hb)
    refine zwp_blk 8 (c' := (26, [some (.inr (some (16, 0))), some (.inl x1), some (.inl x2)], [.inl (nI 0), .inl (((nI 40) * x1) + x2), .inr (some (34, 0))], (S, d))) rfl ?_
    obtain ⟨j1, ej1, lj1, h⟩ := h
    refine zwp_stx (n := 160) (cd := 2176) (i := 0) (v := vp_nar .byte (nI 0)) (pc' := 27) (ls := [some (.inr (some (16, 0))), some (.inl x1), some (.inl x2)]) (r := []) (t := (S, d)) rfl ej1 lj1 (by decide) ?_
    refine zwp_blk 2 (c' := (9, [some (.inr (some (16, 0))), some (.inl x1), some (.inl (x2 + nI 1))], [], (zu S 2176 0 j1 (vp_nar .byte (nI 0)), d))) rfl ?_
    exact h
