-- 104 PageKeeperModel.begin
theorem w104_0 {S : zS} {d : Nat} {Q : zO → zT → Prop} {x1 : Int32} (h : zwp 96 (0, zent 96 [.inr (some (16, 0)), .inl x1], [], (zu S 1024 0 0 (nI 0), d)) (zaf 104 10 [some (.inr (some (16, 0))), some (.inl x1)] [] Q)) : zwp 104 (0, [some (.inr (some (16, 0))), some (.inl x1)], [], (S, d)) Q := by
  refine zwp_blk 5 (c' := (7, [some (.inr (some (16, 0))), some (.inl x1)], [.inl x1, .inr (some (16, 0))], (zu S 1024 0 0 (nI 0), d))) rfl ?_
  exact zwp_call rfl h
theorem w104_10 {S : zS} {d : Nat} {Q : zO → zT → Prop} {x1 : Int32} {y0 : Int32} (h : (y0 = 0 → zwp 76 (0, zent 76 [.inr (some (16, 0)), .inl (nI 1)], [], (S, d)) (zaf 104 18 [some (.inr (some (16, 0))), some (.inl x1)] [] Q)) ∧ (¬ y0 = 0 → ∃ j1 : Nat, x1 = nI j1 ∧ j1 < 4 ∧ (((S 2112 0 j1) ≤ 0 → ∃ j2 : Nat, x1 = nI j2 ∧ j2 < 4 ∧ (Q (.inl (some (.inl ((S 1053 0 0) + (nI 1))))) (zu (zu S 1053 0 0 ((S 1053 0 0) + (nI 1))) 2112 0 j2 (((S 1053 0 0) + (nI 1))), d))) ∧ (¬ (S 2112 0 j1) ≤ 0 → zwp 76 (0, zent 76 [.inr (some (16, 0)), .inl (nI 2)], [], (S, d)) (zaf 104 33 [some (.inr (some (16, 0))), some (.inl x1)] [] Q))))) : zwp 104 (10, [some (.inr (some (16, 0))), some (.inl x1)], [.inl y0], (S, d)) Q := by
  refine zwp_br rfl (fun hb => ?_) (fun hb => ?_)
  · show zwp 104 (19, [some (.inr (some (16, 0))), some (.inl x1)], [], (S, d)) Q
    replace h := h.2 (zne_t hb)
    refine zwp_blk 3 (c' := (24, [some (.inr (some (16, 0))), some (.inl x1)], [.inl x1, .inr (some (33, 0))], (S, d))) rfl ?_
    obtain ⟨j1, ej1, lj1, h⟩ := h
    refine zwp_ldx (n := 4) (cd := 2112) (i := 0) (pc' := 25) (ls := [some (.inr (some (16, 0))), some (.inl x1)]) (r := []) (t := (S, d)) rfl ej1 lj1 (by decide) ?_
    refine zwp_br rfl (fun hb => ?_) (fun hb => ?_)
    · show zwp 104 (34, [some (.inr (some (16, 0))), some (.inl x1)], [], (S, d)) Q
      replace h := h.1 (of_decide_eq_true hb)
      refine zwp_blk 11 (c' := (53, [some (.inr (some (16, 0))), some (.inl x1)], [.inl ((S 1053 0 0) + (nI 1)), .inl x1, .inr (some (33, 0))], (zu S 1053 0 0 ((S 1053 0 0) + (nI 1)), d))) rfl ?_
      obtain ⟨j2, ej2, lj2, h⟩ := h
      refine zwp_stx (n := 4) (cd := 2112) (i := 0) (v := ((S 1053 0 0) + (nI 1))) (pc' := 54) (ls := [some (.inr (some (16, 0))), some (.inl x1)]) (r := []) (t := (zu S 1053 0 0 ((S 1053 0 0) + (nI 1)), d)) rfl ej2 lj2 (by decide) ?_
      refine zwp_blk 2 (c' := (58, [some (.inr (some (16, 0))), some (.inl x1)], [.inl ((S 1053 0 0) + (nI 1))], (zu (zu S 1053 0 0 ((S 1053 0 0) + (nI 1))) 2112 0 j2 (((S 1053 0 0) + (nI 1))), d))) rfl ?_
      exact zwp_end rfl h
    · show zwp 104 (28, [some (.inr (some (16, 0))), some (.inl x1)], [], (S, d)) Q
      replace h := h.2 (of_decide_eq_false hb)
      refine zwp_blk 2 (c' := (30, [some (.inr (some (16, 0))), some (.inl x1)], [.inl (nI 2), .inr (some (16, 0))], (S, d))) rfl ?_
      exact zwp_call rfl h
  · show zwp 104 (13, [some (.inr (some (16, 0))), some (.inl x1)], [], (S, d)) Q
    replace h := h.1 (zne_f hb)
    refine zwp_blk 2 (c' := (15, [some (.inr (some (16, 0))), some (.inl x1)], [.inl (nI 1), .inr (some (16, 0))], (S, d))) rfl ?_
    exact zwp_call rfl h
theorem w104_18 {S : zS} {d : Nat} {Q : zO → zT → Prop} {x1 : Int32} {y0 : Int32} (h : Q (.inl (some (.inl y0))) (S, d)) : zwp 104 (18, [some (.inr (some (16, 0))), some (.inl x1)], [.inl y0], (S, d)) Q := by
  exact zwp_end rfl h
theorem w104_33 {S : zS} {d : Nat} {Q : zO → zT → Prop} {x1 : Int32} {y0 : Int32} (h : Q (.inl (some (.inl y0))) (S, d)) : zwp 104 (33, [some (.inr (some (16, 0))), some (.inl x1)], [.inl y0], (S, d)) Q := by
  exact zwp_end rfl h
-- 105 PageKeeperModel.ready
theorem w105_0 {S : zS} {d : Nat} {Q : zO → zT → Prop} {x1 : Int32} {x2 : Int32} {x3 : Int32} (h : zwp 96 (0, zent 96 [.inr (some (16, 0)), .inl x1], [], (S, d)) (zaf 105 5 [some (.inr (some (16, 0))), some (.inl x1), some (.inl x2), some (.inl x3)] [] Q)) : zwp 105 (0, [some (.inr (some (16, 0))), some (.inl x1), some (.inl x2), some (.inl x3)], [], (S, d)) Q := by
  refine zwp_blk 2 (c' := (2, [some (.inr (some (16, 0))), some (.inl x1), some (.inl x2), some (.inl x3)], [.inl x1, .inr (some (16, 0))], (S, d))) rfl ?_
  exact zwp_call rfl h
theorem w105_5 {S : zS} {d : Nat} {Q : zO → zT → Prop} {x1 : Int32} {x2 : Int32} {x3 : Int32} {y0 : Int32} (h : (y0 = 0 → Q (.inl (some (.inl (nI 1)))) (S, d)) ∧ (¬ y0 = 0 → zwp 77 (0, zent 77 [.inl x2, .inl (nI 0), .inl (nI 39)], [], (S, d)) (zaf 105 15 [some (.inr (some (16, 0))), some (.inl x1), some (.inl x2), some (.inl x3)] [] Q))) : zwp 105 (5, [some (.inr (some (16, 0))), some (.inl x1), some (.inl x2), some (.inl x3)], [.inl y0], (S, d)) Q := by
  refine zwp_br rfl (fun hb => ?_) (fun hb => ?_)
  · show zwp 105 (18, [some (.inr (some (16, 0))), some (.inl x1), some (.inl x2), some (.inl x3)], [], (S, d)) Q
    replace h := h.1 (of_decide_eq_true hb)
    refine zwp_blk 1 (c' := (19, [some (.inr (some (16, 0))), some (.inl x1), some (.inl x2), some (.inl x3)], [.inl (nI 1)], (S, d))) rfl ?_
    exact zwp_end rfl h
  · show zwp 105 (8, [some (.inr (some (16, 0))), some (.inl x1), some (.inl x2), some (.inl x3)], [], (S, d)) Q
    replace h := h.2 (of_decide_eq_false hb)
    refine zwp_blk 3 (c' := (12, [some (.inr (some (16, 0))), some (.inl x1), some (.inl x2), some (.inl x3)], [.inl (nI 39), .inl (nI 0), .inl x2], (S, d))) rfl ?_
    exact zwp_call rfl h
theorem w105_15 {S : zS} {d : Nat} {Q : zO → zT → Prop} {x1 : Int32} {x2 : Int32} {x3 : Int32} {y0 : Int32} (h : (y0 = 0 → Q (.inl (some (.inl (nI 1)))) (S, d)) ∧ (¬ y0 = 0 → ∃ j1 : Nat, x1 = nI j1 ∧ j1 < 4 ∧ (((S 2112 0 j1) ≤ 0 → Q (.inl (some (.inl (nI 2)))) (S, d)) ∧ (¬ (S 2112 0 j1) ≤ 0 → zwp 102 (0, zent 102 [.inr (some (16, 0)), .inl x1, .inl x2, .inl x3], [], (S, d)) (zaf 105 36 [some (.inr (some (16, 0))), some (.inl x1), some (.inl x2), some (.inl x3)] [] Q))))) : zwp 105 (15, [some (.inr (some (16, 0))), some (.inl x1), some (.inl x2), some (.inl x3)], [.inl y0], (S, d)) Q := by
  refine zwp_br rfl (fun hb => ?_) (fun hb => ?_)
  · show zwp 105 (20, [some (.inr (some (16, 0))), some (.inl x1), some (.inl x2), some (.inl x3)], [], (S, d)) Q
    replace h := h.2 (zne_t hb)
    refine zwp_blk 3 (c' := (25, [some (.inr (some (16, 0))), some (.inl x1), some (.inl x2), some (.inl x3)], [.inl x1, .inr (some (33, 0))], (S, d))) rfl ?_
    obtain ⟨j1, ej1, lj1, h⟩ := h
    refine zwp_ldx (n := 4) (cd := 2112) (i := 0) (pc' := 26) (ls := [some (.inr (some (16, 0))), some (.inl x1), some (.inl x2), some (.inl x3)]) (r := []) (t := (S, d)) rfl ej1 lj1 (by decide) ?_
    refine zwp_br rfl (fun hb => ?_) (fun hb => ?_)
    · show zwp 105 (43, [some (.inr (some (16, 0))), some (.inl x1), some (.inl x2), some (.inl x3)], [], (S, d)) Q
      replace h := h.1 (of_decide_eq_true hb)
      refine zwp_blk 1 (c' := (44, [some (.inr (some (16, 0))), some (.inl x1), some (.inl x2), some (.inl x3)], [.inl (nI 2)], (S, d))) rfl ?_
      exact zwp_end rfl h
    · show zwp 105 (29, [some (.inr (some (16, 0))), some (.inl x1), some (.inl x2), some (.inl x3)], [], (S, d)) Q
      replace h := h.2 (of_decide_eq_false hb)
      refine zwp_blk 4 (c' := (33, [some (.inr (some (16, 0))), some (.inl x1), some (.inl x2), some (.inl x3)], [.inl x3, .inl x2, .inl x1, .inr (some (16, 0))], (S, d))) rfl ?_
      exact zwp_call rfl h
  · show zwp 105 (18, [some (.inr (some (16, 0))), some (.inl x1), some (.inl x2), some (.inl x3)], [], (S, d)) Q
    replace h := h.1 (zne_f hb)
    refine zwp_blk 1 (c' := (19, [some (.inr (some (16, 0))), some (.inl x1), some (.inl x2), some (.inl x3)], [.inl (nI 1)], (S, d))) rfl ?_
    exact zwp_end rfl h
theorem w105_36 {S : zS} {d : Nat} {Q : zO → zT → Prop} {x1 : Int32} {x2 : Int32} {x3 : Int32} {y0 : Int32} (h : (y0 = 0 → Q (.inl (some (.inl (nI 2)))) (S, d)) ∧ (¬ y0 = 0 → Q (.inl (some (.inl (nI 0)))) (S, d))) : zwp 105 (36, [some (.inr (some (16, 0))), some (.inl x1), some (.inl x2), some (.inl x3)], [.inl y0], (S, d)) Q := by
  refine zwp_br rfl (fun hb => ?_) (fun hb => ?_)
  · show zwp 105 (43, [some (.inr (some (16, 0))), some (.inl x1), some (.inl x2), some (.inl x3)], [], (S, d)) Q
    replace h := h.1 (of_decide_eq_true hb)
    refine zwp_blk 1 (c' := (44, [some (.inr (some (16, 0))), some (.inl x1), some (.inl x2), some (.inl x3)], [.inl (nI 2)], (S, d))) rfl ?_
    exact zwp_end rfl h
  · show zwp 105 (39, [some (.inr (some (16, 0))), some (.inl x1), some (.inl x2), some (.inl x3)], [], (S, d)) Q
    replace h := h.2 (of_decide_eq_false hb)
    refine zwp_blk 2 (c' := (44, [some (.inr (some (16, 0))), some (.inl x1), some (.inl x2), some (.inl x3)], [.inl (nI 0)], (S, d))) rfl ?_
    exact zwp_end rfl h
-- 106 PageKeeperModel.get
theorem w106_0 {S : zS} {d : Nat} {Q : zO → zT → Prop} {x1 : Int32} {x2 : Int32} (h : zwp 105 (0, zent 105 [.inr (some (16, 0)), .inl x1, .inl x2, .inl (nI 1)], [], (S, d)) (zaf 106 8 [some (.inr (some (16, 0))), some (.inl x1), some (.inl x2), none] [.inr (some (16, 0))] Q)) : zwp 106 (0, [some (.inr (some (16, 0))), some (.inl x1), some (.inl x2), none], [], (S, d)) Q := by
  refine zwp_blk 5 (c' := (5, [some (.inr (some (16, 0))), some (.inl x1), some (.inl x2), none], [.inl (nI 1), .inl x2, .inl x1, .inr (some (16, 0)), .inr (some (16, 0))], (S, d))) rfl ?_
  exact zwp_call rfl h
theorem w106_8 {S : zS} {d : Nat} {Q : zO → zT → Prop} {x1 : Int32} {x2 : Int32} {y0 : Int32} (h : (y0 ≤ 0 → zwp 93 (0, zent 93 [.inr (some (16, 0)), .inl x2], [], (zu S 1024 0 0 y0, d)) (zaf 106 25 [some (.inr (some (16, 0))), some (.inl x1), some (.inl x2), none] [] Q)) ∧ (¬ y0 ≤ 0 → Q (.inl (some (.inl (nI 0)))) (zu S 1024 0 0 y0, d))) : zwp 106 (8, [some (.inr (some (16, 0))), some (.inl x1), some (.inl x2), none], [.inl y0, .inr (some (16, 0))], (S, d)) Q := by
  refine zwp_blk 3 (c' := (15, [some (.inr (some (16, 0))), some (.inl x1), some (.inl x2), none], [.inl y0], (zu S 1024 0 0 y0, d))) rfl ?_
  refine zwp_br rfl (fun hb => ?_) (fun hb => ?_)
  · show zwp 106 (20, [some (.inr (some (16, 0))), some (.inl x1), some (.inl x2), none], [], (zu S 1024 0 0 y0, d)) Q
    replace h := h.1 (of_decide_eq_true hb)
    refine zwp_blk 2 (c' := (22, [some (.inr (some (16, 0))), some (.inl x1), some (.inl x2), none], [.inl x2, .inr (some (16, 0))], (zu S 1024 0 0 y0, d))) rfl ?_
    exact zwp_call rfl h
  · show zwp 106 (18, [some (.inr (some (16, 0))), some (.inl x1), some (.inl x2), none], [], (zu S 1024 0 0 y0, d)) Q
    replace h := h.2 (of_decide_eq_false hb)
    refine zwp_blk 1 (c' := (19, [some (.inr (some (16, 0))), some (.inl x1), some (.inl x2), none], [.inl (nI 0)], (zu S 1024 0 0 y0, d))) rfl ?_
    exact zwp_end rfl h
theorem w106_25 {S : zS} {d : Nat} {Q : zO → zT → Prop} {x1 : Int32} {x2 : Int32} {y0 : Int32} (h : zwp 82 (0, zent 82 [.inr (some (16, 0)), .inl x2], [], (S, d)) (zaf 106 31 [some (.inr (some (16, 0))), some (.inl x1), some (.inl x2), none] [] Q)) : zwp 106 (25, [some (.inr (some (16, 0))), some (.inl x1), some (.inl x2), none], [.inl y0], (S, d)) Q := by
  refine zwp_blk 3 (c' := (28, [some (.inr (some (16, 0))), some (.inl x1), some (.inl x2), none], [.inl x2, .inr (some (16, 0))], (S, d))) rfl ?_
  exact zwp_call rfl h
theorem w106_31 {S : zS} {d : Nat} {Q : zO → zT → Prop} {x1 : Int32} {x2 : Int32} {y0 : Int32} (h : (0 ≤ y0 → ∃ j1 : Nat, y0 = nI j1 ∧ j1 < 6 ∧ (Q (.inl (some (.inl (S 2048 0 j1)))) (S, d))) ∧ (¬ 0 ≤ y0 → zwp 76 (0, zent 76 [.inr (some (16, 0)), .inl (nI 3)], [], (S, d)) (zaf 106 41 [some (.inr (some (16, 0))), some (.inl x1), some (.inl x2), some (.inl y0)] [] Q))) : zwp 106 (31, [some (.inr (some (16, 0))), some (.inl x1), some (.inl x2), none], [.inl y0], (S, d)) Q := by
  refine zwp_blk 2 (c' := (33, [some (.inr (some (16, 0))), some (.inl x1), some (.inl x2), some (.inl y0)], [.inl y0], (S, d))) rfl ?_
  refine zwp_br rfl (fun hb => ?_) (fun hb => ?_)
  · show zwp 106 (44, [some (.inr (some (16, 0))), some (.inl x1), some (.inl x2), some (.inl y0)], [], (S, d)) Q
    replace h := h.1 (of_decide_eq_true hb)
    refine zwp_blk 3 (c' := (49, [some (.inr (some (16, 0))), some (.inl x1), some (.inl x2), some (.inl y0)], [.inl y0, .inr (some (32, 0))], (S, d))) rfl ?_
    obtain ⟨j1, ej1, lj1, h⟩ := h
    refine zwp_ldx (n := 6) (cd := 2048) (i := 0) (pc' := 50) (ls := [some (.inr (some (16, 0))), some (.inl x1), some (.inl x2), some (.inl y0)]) (r := []) (t := (S, d)) rfl ej1 lj1 (by decide) ?_
    exact zwp_end rfl h
  · show zwp 106 (36, [some (.inr (some (16, 0))), some (.inl x1), some (.inl x2), some (.inl y0)], [], (S, d)) Q
    replace h := h.2 (of_decide_eq_false hb)
    refine zwp_blk 2 (c' := (38, [some (.inr (some (16, 0))), some (.inl x1), some (.inl x2), some (.inl y0)], [.inl (nI 3), .inr (some (16, 0))], (S, d))) rfl ?_
    exact zwp_call rfl h
theorem w106_41 {S : zS} {d : Nat} {Q : zO → zT → Prop} {x1 : Int32} {x2 : Int32} {x3 : Int32} {y0 : Int32} (h : Q (.inl (some (.inl y0))) (S, d)) : zwp 106 (41, [some (.inr (some (16, 0))), some (.inl x1), some (.inl x2), some (.inl x3)], [.inl y0], (S, d)) Q := by
  refine zwp_blk 1 (c' := (50, [some (.inr (some (16, 0))), some (.inl x1), some (.inl x2), some (.inl x3)], [.inl y0], (S, d))) rfl ?_
  exact zwp_end rfl h
-- 107 PageKeeperModel.put
theorem w107_0 {S : zS} {d : Nat} {Q : zO → zT → Prop} {x1 : Int32} {x2 : Int32} {x3 : Int32} (h : zwp 105 (0, zent 105 [.inr (some (16, 0)), .inl x1, .inl x2, .inl (nI 2)], [], (S, d)) (zaf 107 8 [some (.inr (some (16, 0))), some (.inl x1), some (.inl x2), some (.inl x3)] [.inr (some (16, 0))] Q)) : zwp 107 (0, [some (.inr (some (16, 0))), some (.inl x1), some (.inl x2), some (.inl x3)], [], (S, d)) Q := by
  refine zwp_blk 5 (c' := (5, [some (.inr (some (16, 0))), some (.inl x1), some (.inl x2), some (.inl x3)], [.inl (nI 2), .inl x2, .inl x1, .inr (some (16, 0)), .inr (some (16, 0))], (S, d))) rfl ?_
  exact zwp_call rfl h
theorem w107_8 {S : zS} {d : Nat} {Q : zO → zT → Prop} {x1 : Int32} {x2 : Int32} {x3 : Int32} {y0 : Int32} (h : (y0 ≤ 0 → ∃ j1 : Nat, x1 = nI j1 ∧ j1 < 4 ∧ (zwp 95 (0, zent 95 [.inr (some (16, 0)), .inl x2, .inl x3, .inl (S 2112 0 j1)], [], (zu S 1024 0 0 y0, d)) (zaf 107 34 [some (.inr (some (16, 0))), some (.inl x1), some (.inl x2), some (.inl x3)] [] Q))) ∧ (¬ y0 ≤ 0 → zwp 107 (34, [some (.inr (some (16, 0))), some (.inl x1), some (.inl x2), some (.inl x3)], [.inl (nI 0)], (zu S 1024 0 0 y0, d)) Q)) : zwp 107 (8, [some (.inr (some (16, 0))), some (.inl x1), some (.inl x2), some (.inl x3)], [.inl y0, .inr (some (16, 0))], (S, d)) Q := by
  refine zwp_blk 3 (c' := (15, [some (.inr (some (16, 0))), some (.inl x1), some (.inl x2), some (.inl x3)], [.inl y0], (zu S 1024 0 0 y0, d))) rfl ?_
  refine zwp_br rfl (fun hb => ?_) (fun hb => ?_)
  · show zwp 107 (22, [some (.inr (some (16, 0))), some (.inl x1), some (.inl x2), some (.inl x3)], [], (zu S 1024 0 0 y0, d)) Q
    replace h := h.1 (of_decide_eq_true hb)
    refine zwp_blk 6 (c' := (30, [some (.inr (some (16, 0))), some (.inl x1), some (.inl x2), some (.inl x3)], [.inl x1, .inr (some (33, 0)), .inl x3, .inl x2, .inr (some (16, 0))], (zu S 1024 0 0 y0, d))) rfl ?_
    obtain ⟨j1, ej1, lj1, h⟩ := h
    refine zwp_ldx (n := 4) (cd := 2112) (i := 0) (pc' := 31) (ls := [some (.inr (some (16, 0))), some (.inl x1), some (.inl x2), some (.inl x3)]) (r := [.inl x3, .inl x2, .inr (some (16, 0))]) (t := (zu S 1024 0 0 y0, d)) rfl ej1 lj1 (by decide) ?_
    exact zwp_call rfl h
  · show zwp 107 (18, [some (.inr (some (16, 0))), some (.inl x1), some (.inl x2), some (.inl x3)], [], (zu S 1024 0 0 y0, d)) Q
    replace h := h.2 (of_decide_eq_false hb)
    refine zwp_blk 2 (c' := (34, [some (.inr (some (16, 0))), some (.inl x1), some (.inl x2), some (.inl x3)], [.inl (nI 0)], (zu S 1024 0 0 y0, d))) rfl ?_
    exact h
theorem w107_34 {S : zS} {d : Nat} {Q : zO → zT → Prop} {x1 : Int32} {x2 : Int32} {x3 : Int32} {y0 : Int32} (h : Q (.inl (some (.inl y0))) (S, d)) : zwp 107 (34, [some (.inr (some (16, 0))), some (.inl x1), some (.inl x2), some (.inl x3)], [.inl y0], (S, d)) Q := by
  exact zwp_end rfl h
-- 108 PageKeeperModel.remove
theorem w108_0 {S : zS} {d : Nat} {Q : zO → zT → Prop} {x1 : Int32} {x2 : Int32} (h : zwp 105 (0, zent 105 [.inr (some (16, 0)), .inl x1, .inl x2, .inl (nI 2)], [], (S, d)) (zaf 108 8 [some (.inr (some (16, 0))), some (.inl x1), some (.inl x2), none, none, none] [.inr (some (16, 0))] Q)) : zwp 108 (0, [some (.inr (some (16, 0))), some (.inl x1), some (.inl x2), none, none, none], [], (S, d)) Q := by
  refine zwp_blk 5 (c' := (5, [some (.inr (some (16, 0))), some (.inl x1), some (.inl x2), none, none, none], [.inl (nI 2), .inl x2, .inl x1, .inr (some (16, 0)), .inr (some (16, 0))], (S, d))) rfl ?_
  exact zwp_call rfl h
theorem w108_8 {S : zS} {d : Nat} {Q : zO → zT → Prop} {x1 : Int32} {x2 : Int32} {y0 : Int32} (h : (y0 ≤ 0 → zwp 93 (0, zent 93 [.inr (some (16, 0)), .inl x2], [], (zu S 1024 0 0 y0, d)) (zaf 108 25 [some (.inr (some (16, 0))), some (.inl x1), some (.inl x2), none, none, none] [] Q)) ∧ (¬ y0 ≤ 0 → Q (.inl (some (.inl (nI 0)))) (zu S 1024 0 0 y0, d))) : zwp 108 (8, [some (.inr (some (16, 0))), some (.inl x1), some (.inl x2), none, none, none], [.inl y0, .inr (some (16, 0))], (S, d)) Q := by
  refine zwp_blk 3 (c' := (15, [some (.inr (some (16, 0))), some (.inl x1), some (.inl x2), none, none, none], [.inl y0], (zu S 1024 0 0 y0, d))) rfl ?_
  refine zwp_br rfl (fun hb => ?_) (fun hb => ?_)
  · show zwp 108 (20, [some (.inr (some (16, 0))), some (.inl x1), some (.inl x2), none, none, none], [], (zu S 1024 0 0 y0, d)) Q
    replace h := h.1 (of_decide_eq_true hb)
    refine zwp_blk 2 (c' := (22, [some (.inr (some (16, 0))), some (.inl x1), some (.inl x2), none, none, none], [.inl x2, .inr (some (16, 0))], (zu S 1024 0 0 y0, d))) rfl ?_
    exact zwp_call rfl h
  · show zwp 108 (18, [some (.inr (some (16, 0))), some (.inl x1), some (.inl x2), none, none, none], [], (zu S 1024 0 0 y0, d)) Q
    replace h := h.2 (of_decide_eq_false hb)
    refine zwp_blk 1 (c' := (19, [some (.inr (some (16, 0))), some (.inl x1), some (.inl x2), none, none, none], [.inl (nI 0)], (zu S 1024 0 0 y0, d))) rfl ?_
    exact zwp_end rfl h
theorem w108_25 {S : zS} {d : Nat} {Q : zO → zT → Prop} {x1 : Int32} {x2 : Int32} {y0 : Int32} (h : zwp 82 (0, zent 82 [.inr (some (16, 0)), .inl x2], [], (S, d)) (zaf 108 31 [some (.inr (some (16, 0))), some (.inl x1), some (.inl x2), some (.inl y0), none, none] [] Q)) : zwp 108 (25, [some (.inr (some (16, 0))), some (.inl x1), some (.inl x2), none, none, none], [.inl y0], (S, d)) Q := by
  refine zwp_blk 3 (c' := (28, [some (.inr (some (16, 0))), some (.inl x1), some (.inl x2), some (.inl y0), none, none], [.inl x2, .inr (some (16, 0))], (S, d))) rfl ?_
  exact zwp_call rfl h
theorem w108_31 {S : zS} {d : Nat} {Q : zO → zT → Prop} {x1 : Int32} {x2 : Int32} {x3 : Int32} {y0 : Int32} (h : (0 ≤ y0 → ∃ j1 : Nat, y0 = nI j1 ∧ j1 < 6 ∧ (∃ j2 : Nat, x1 = nI j2 ∧ j2 < 4 ∧ (zwp 94 (0, zent 94 [.inr (some (16, 0)), .inl (nI 2), .inl x3, .inl x2, .inl (nI 0), .inl (S 2112 0 j2)], [], (S, d)) (zaf 108 67 [some (.inr (some (16, 0))), some (.inl x1), some (.inl x2), some (.inl x3), some (.inl y0), some (.inl (S 2048 0 j1))] [] Q)))) ∧ (¬ 0 ≤ y0 → zwp 76 (0, zent 76 [.inr (some (16, 0)), .inl (nI 3)], [], (S, d)) (zaf 108 43 [some (.inr (some (16, 0))), some (.inl x1), some (.inl x2), some (.inl x3), some (.inl y0), none] [] Q))) : zwp 108 (31, [some (.inr (some (16, 0))), some (.inl x1), some (.inl x2), some (.inl x3), none, none], [.inl y0], (S, d)) Q := by
  refine zwp_blk 2 (c' := (35, [some (.inr (some (16, 0))), some (.inl x1), some (.inl x2), some (.inl x3), some (.inl y0), none], [.inl y0], (S, d))) rfl ?_
  refine zwp_br rfl (fun hb => ?_) (fun hb => ?_)
  · show zwp 108 (44, [some (.inr (some (16, 0))), some (.inl x1), some (.inl x2), some (.inl x3), some (.inl y0), none], [], (S, d)) Q
    replace h := h.1 (of_decide_eq_true hb)
    refine zwp_blk 3 (c' := (50, [some (.inr (some (16, 0))), some (.inl x1), some (.inl x2), some (.inl x3), some (.inl y0), none], [.inl y0, .inr (some (32, 0))], (S, d))) rfl ?_
    obtain ⟨j1, ej1, lj1, h⟩ := h
    refine zwp_ldx (n := 6) (cd := 2048) (i := 0) (pc' := 51) (ls := [some (.inr (some (16, 0))), some (.inl x1), some (.inl x2), some (.inl x3), some (.inl y0), none]) (r := []) (t := (S, d)) rfl ej1 lj1 (by decide) ?_
    refine zwp_blk 9 (c' := (63, [some (.inr (some (16, 0))), some (.inl x1), some (.inl x2), some (.inl x3), some (.inl y0), some (.inl (S 2048 0 j1))], [.inl x1, .inr (some (33, 0)), .inl (nI 0), .inl x2, .inl x3, .inl (nI 2), .inr (some (16, 0))], (S, d))) rfl ?_
    obtain ⟨j2, ej2, lj2, h⟩ := h
    refine zwp_ldx (n := 4) (cd := 2112) (i := 0) (pc' := 64) (ls := [some (.inr (some (16, 0))), some (.inl x1), some (.inl x2), some (.inl x3), some (.inl y0), some (.inl (S 2048 0 j1))]) (r := [.inl (nI 0), .inl x2, .inl x3, .inl (nI 2), .inr (some (16, 0))]) (t := (S, d)) rfl ej2 lj2 (by decide) ?_
    exact zwp_call rfl h
  · show zwp 108 (38, [some (.inr (some (16, 0))), some (.inl x1), some (.inl x2), some (.inl x3), some (.inl y0), none], [], (S, d)) Q
    replace h := h.2 (of_decide_eq_false hb)
    refine zwp_blk 2 (c' := (40, [some (.inr (some (16, 0))), some (.inl x1), some (.inl x2), some (.inl x3), some (.inl y0), none], [.inl (nI 3), .inr (some (16, 0))], (S, d))) rfl ?_
    exact zwp_call rfl h
theorem w108_43 {S : zS} {d : Nat} {Q : zO → zT → Prop} {x1 : Int32} {x2 : Int32} {x3 : Int32} {x4 : Int32} {y0 : Int32} (h : Q (.inl (some (.inl y0))) (S, d)) : zwp 108 (43, [some (.inr (some (16, 0))), some (.inl x1), some (.inl x2), some (.inl x3), some (.inl x4), none], [.inl y0], (S, d)) Q := by
  exact zwp_end rfl h
theorem w108_67 {S : zS} {d : Nat} {Q : zO → zT → Prop} {x1 : Int32} {x2 : Int32} {x3 : Int32} {x4 : Int32} {x5 : Int32} (h : Q (.inl (some (.inl x5))) (S, d)) : zwp 108 (67, [some (.inr (some (16, 0))), some (.inl x1), some (.inl x2), some (.inl x3), some (.inl x4), some (.inl x5)], [], (S, d)) Q := by
  refine zwp_blk 1 (c' := (69, [some (.inr (some (16, 0))), some (.inl x1), some (.inl x2), some (.inl x3), some (.inl x4), some (.inl x5)], [.inl x5], (S, d))) rfl ?_
  exact zwp_end rfl h
-- 109 PageKeeperModel.commit
theorem w109_0 {S : zS} {d : Nat} {Q : zO → zT → Prop} {x1 : Int32} (h : zwp 96 (0, zent 96 [.inr (some (16, 0)), .inl x1], [], (S, d)) (zaf 109 6 [some (.inr (some (16, 0))), some (.inl x1), none] [.inr (some (16, 0))] Q)) : zwp 109 (0, [some (.inr (some (16, 0))), some (.inl x1), none], [], (S, d)) Q := by
  refine zwp_blk 3 (c' := (3, [some (.inr (some (16, 0))), some (.inl x1), none], [.inl x1, .inr (some (16, 0)), .inr (some (16, 0))], (S, d))) rfl ?_
  exact zwp_call rfl h
theorem w109_6 {S : zS} {d : Nat} {Q : zO → zT → Prop} {x1 : Int32} {y0 : Int32} (h : (y0 = 0 → zwp 109 (27, [some (.inr (some (16, 0))), some (.inl x1), none], [.inl (nI 1), .inr (some (16, 0))], (S, d)) Q) ∧ (¬ y0 = 0 → ∃ j1 : Nat, x1 = nI j1 ∧ j1 < 4 ∧ (((S 2112 0 j1) = 0 → zwp 109 (27, [some (.inr (some (16, 0))), some (.inl x1), none], [.inl (nI 2), .inr (some (16, 0))], (S, d)) Q) ∧ (¬ (S 2112 0 j1) = 0 → zwp 109 (27, [some (.inr (some (16, 0))), some (.inl x1), none], [.inl (nI 0), .inr (some (16, 0))], (S, d)) Q)))) : zwp 109 (6, [some (.inr (some (16, 0))), some (.inl x1), none], [.inl y0, .inr (some (16, 0))], (S, d)) Q := by
  refine zwp_br rfl (fun hb => ?_) (fun hb => ?_)
  · show zwp 109 (13, [some (.inr (some (16, 0))), some (.inl x1), none], [.inr (some (16, 0))], (S, d)) Q
    replace h := h.2 (zne_t hb)
    refine zwp_blk 3 (c' := (18, [some (.inr (some (16, 0))), some (.inl x1), none], [.inl x1, .inr (some (33, 0)), .inr (some (16, 0))], (S, d))) rfl ?_
    obtain ⟨j1, ej1, lj1, h⟩ := h
    refine zwp_ldx (n := 4) (cd := 2112) (i := 0) (pc' := 19) (ls := [some (.inr (some (16, 0))), some (.inl x1), none]) (r := [.inr (some (16, 0))]) (t := (S, d)) rfl ej1 lj1 (by decide) ?_
    refine zwp_br rfl (fun hb => ?_) (fun hb => ?_)
    · show zwp 109 (26, [some (.inr (some (16, 0))), some (.inl x1), none], [.inr (some (16, 0))], (S, d)) Q
      replace h := h.2 (zne_t hb)
      refine zwp_blk 1 (c' := (27, [some (.inr (some (16, 0))), some (.inl x1), none], [.inl (nI 0), .inr (some (16, 0))], (S, d))) rfl ?_
      exact h
    · show zwp 109 (22, [some (.inr (some (16, 0))), some (.inl x1), none], [.inr (some (16, 0))], (S, d)) Q
      replace h := h.1 (zne_f hb)
      refine zwp_blk 2 (c' := (27, [some (.inr (some (16, 0))), some (.inl x1), none], [.inl (nI 2), .inr (some (16, 0))], (S, d))) rfl ?_
      exact h
  · show zwp 109 (9, [some (.inr (some (16, 0))), some (.inl x1), none], [.inr (some (16, 0))], (S, d)) Q
    replace h := h.1 (zne_f hb)
    refine zwp_blk 2 (c' := (27, [some (.inr (some (16, 0))), some (.inl x1), none], [.inl (nI 1), .inr (some (16, 0))], (S, d))) rfl ?_
    exact h
theorem w109_27 {S : zS} {d : Nat} {Q : zO → zT → Prop} {x1 : Int32} {y0 : Int32} (h : (y0 ≤ 0 → zwp 88 (0, zent 88 [.inr (some (16, 0)), .inl (nI 6), .inl (nI 0)], [], (zu S 1024 0 0 y0, d)) (zaf 109 46 [some (.inr (some (16, 0))), some (.inl x1), none] [] Q)) ∧ (¬ y0 ≤ 0 → Q (.inl (some (.inl (nI 0)))) (zu S 1024 0 0 y0, d))) : zwp 109 (27, [some (.inr (some (16, 0))), some (.inl x1), none], [.inl y0, .inr (some (16, 0))], (S, d)) Q := by
  refine zwp_blk 3 (c' := (34, [some (.inr (some (16, 0))), some (.inl x1), none], [.inl y0], (zu S 1024 0 0 y0, d))) rfl ?_
  refine zwp_br rfl (fun hb => ?_) (fun hb => ?_)
  · show zwp 109 (39, [some (.inr (some (16, 0))), some (.inl x1), none], [], (zu S 1024 0 0 y0, d)) Q
    replace h := h.1 (of_decide_eq_true hb)
    refine zwp_blk 3 (c' := (43, [some (.inr (some (16, 0))), some (.inl x1), none], [.inl (nI 0), .inl (nI 6), .inr (some (16, 0))], (zu S 1024 0 0 y0, d))) rfl ?_
    exact zwp_call rfl h
  · show zwp 109 (37, [some (.inr (some (16, 0))), some (.inl x1), none], [], (zu S 1024 0 0 y0, d)) Q
    replace h := h.2 (of_decide_eq_false hb)
    refine zwp_blk 1 (c' := (38, [some (.inr (some (16, 0))), some (.inl x1), none], [.inl (nI 0)], (zu S 1024 0 0 y0, d))) rfl ?_
    exact zwp_end rfl h
theorem w109_46 {S : zS} {d : Nat} {Q : zO → zT → Prop} {x1 : Int32} {y0 : Int32} (h : ∃ j1 : Nat, x1 = nI j1 ∧ j1 < 4 ∧ (∃ j2 : Nat, y0 = nI j2 ∧ j2 < 1300 ∧ (zwp 83 (0, zent 83 [.inr (some (16, 0)), .inl y0], [], (zu S 1216 0 j2 (vp_nar .short ((S 2112 0 j1).toInt16.toInt32)), d)) (zaf 109 65 [some (.inr (some (16, 0))), some (.inl x1), some (.inl y0)] [] Q)))) : zwp 109 (46, [some (.inr (some (16, 0))), some (.inl x1), none], [.inl y0], (S, d)) Q := by
  refine zwp_blk 7 (c' := (57, [some (.inr (some (16, 0))), some (.inl x1), some (.inl y0)], [.inl x1, .inr (some (33, 0)), .inl y0, .inr (some (19, 0))], (S, d))) rfl ?_
  obtain ⟨j1, ej1, lj1, h⟩ := h
  refine zwp_ldx (n := 4) (cd := 2112) (i := 0) (pc' := 58) (ls := [some (.inr (some (16, 0))), some (.inl x1), some (.inl y0)]) (r := [.inl y0, .inr (some (19, 0))]) (t := (S, d)) rfl ej1 lj1 (by decide) ?_
  refine zwp_blk 1 (c' := (59, [some (.inr (some (16, 0))), some (.inl x1), some (.inl y0)], [.inl ((S 2112 0 j1).toInt16.toInt32), .inl y0, .inr (some (19, 0))], (S, d))) rfl ?_
  obtain ⟨j2, ej2, lj2, h⟩ := h
  refine zwp_stx (n := 1300) (cd := 1216) (i := 0) (v := vp_nar .short ((S 2112 0 j1).toInt16.toInt32)) (pc' := 60) (ls := [some (.inr (some (16, 0))), some (.inl x1), some (.inl y0)]) (r := []) (t := (S, d)) rfl ej2 lj2 (by decide) ?_
  refine zwp_blk 2 (c' := (62, [some (.inr (some (16, 0))), some (.inl x1), some (.inl y0)], [.inl y0, .inr (some (16, 0))], (zu S 1216 0 j2 (vp_nar .short ((S 2112 0 j1).toInt16.toInt32)), d))) rfl ?_
  exact zwp_call rfl h
theorem w109_65 {S : zS} {d : Nat} {Q : zO → zT → Prop} {x1 : Int32} {x2 : Int32} (h : zwp 103 (0, zent 103 [.inr (some (16, 0)), .inl x1], [], (S, d)) (zaf 109 70 [some (.inr (some (16, 0))), some (.inl x1), some (.inl x2)] [] Q)) : zwp 109 (65, [some (.inr (some (16, 0))), some (.inl x1), some (.inl x2)], [], (S, d)) Q := by
  refine zwp_blk 2 (c' := (67, [some (.inr (some (16, 0))), some (.inl x1), some (.inl x2)], [.inl x1, .inr (some (16, 0))], (S, d))) rfl ?_
  exact zwp_call rfl h
theorem w109_70 {S : zS} {d : Nat} {Q : zO → zT → Prop} {x1 : Int32} {x2 : Int32} (h : Q (.inl (some (.inl x2))) (S, d)) : zwp 109 (70, [some (.inr (some (16, 0))), some (.inl x1), some (.inl x2)], [], (S, d)) Q := by
  refine zwp_blk 1 (c' := (71, [some (.inr (some (16, 0))), some (.inl x1), some (.inl x2)], [.inl x2], (S, d))) rfl ?_
  exact zwp_end rfl h
-- 110 PageKeeperModel.abort
theorem w110_0 {S : zS} {d : Nat} {Q : zO → zT → Prop} {x1 : Int32} (h : zwp 96 (0, zent 96 [.inr (some (16, 0)), .inl x1], [], (S, d)) (zaf 110 6 [some (.inr (some (16, 0))), some (.inl x1), none] [.inr (some (16, 0))] Q)) : zwp 110 (0, [some (.inr (some (16, 0))), some (.inl x1), none], [], (S, d)) Q := by
  refine zwp_blk 3 (c' := (3, [some (.inr (some (16, 0))), some (.inl x1), none], [.inl x1, .inr (some (16, 0)), .inr (some (16, 0))], (S, d))) rfl ?_
  exact zwp_call rfl h
theorem w110_6 {S : zS} {d : Nat} {Q : zO → zT → Prop} {x1 : Int32} {y0 : Int32} (h : (y0 = 0 → zwp 110 (27, [some (.inr (some (16, 0))), some (.inl x1), none], [.inl (nI 1), .inr (some (16, 0))], (S, d)) Q) ∧ (¬ y0 = 0 → ∃ j1 : Nat, x1 = nI j1 ∧ j1 < 4 ∧ (((S 2112 0 j1) = 0 → zwp 110 (27, [some (.inr (some (16, 0))), some (.inl x1), none], [.inl (nI 2), .inr (some (16, 0))], (S, d)) Q) ∧ (¬ (S 2112 0 j1) = 0 → zwp 110 (27, [some (.inr (some (16, 0))), some (.inl x1), none], [.inl (nI 0), .inr (some (16, 0))], (S, d)) Q)))) : zwp 110 (6, [some (.inr (some (16, 0))), some (.inl x1), none], [.inl y0, .inr (some (16, 0))], (S, d)) Q := by
  refine zwp_br rfl (fun hb => ?_) (fun hb => ?_)
  · show zwp 110 (13, [some (.inr (some (16, 0))), some (.inl x1), none], [.inr (some (16, 0))], (S, d)) Q
    replace h := h.2 (zne_t hb)
    refine zwp_blk 3 (c' := (18, [some (.inr (some (16, 0))), some (.inl x1), none], [.inl x1, .inr (some (33, 0)), .inr (some (16, 0))], (S, d))) rfl ?_
    obtain ⟨j1, ej1, lj1, h⟩ := h
    refine zwp_ldx (n := 4) (cd := 2112) (i := 0) (pc' := 19) (ls := [some (.inr (some (16, 0))), some (.inl x1), none]) (r := [.inr (some (16, 0))]) (t := (S, d)) rfl ej1 lj1 (by decide) ?_
    refine zwp_br rfl (fun hb => ?_) (fun hb => ?_)
    · show zwp 110 (26, [some (.inr (some (16, 0))), some (.inl x1), none], [.inr (some (16, 0))], (S, d)) Q
      replace h := h.2 (zne_t hb)
      refine zwp_blk 1 (c' := (27, [some (.inr (some (16, 0))), some (.inl x1), none], [.inl (nI 0), .inr (some (16, 0))], (S, d))) rfl ?_
      exact h
    · show zwp 110 (22, [some (.inr (some (16, 0))), some (.inl x1), none], [.inr (some (16, 0))], (S, d)) Q
      replace h := h.1 (zne_f hb)
      refine zwp_blk 2 (c' := (27, [some (.inr (some (16, 0))), some (.inl x1), none], [.inl (nI 2), .inr (some (16, 0))], (S, d))) rfl ?_
      exact h
  · show zwp 110 (9, [some (.inr (some (16, 0))), some (.inl x1), none], [.inr (some (16, 0))], (S, d)) Q
    replace h := h.1 (zne_f hb)
    refine zwp_blk 2 (c' := (27, [some (.inr (some (16, 0))), some (.inl x1), none], [.inl (nI 1), .inr (some (16, 0))], (S, d))) rfl ?_
    exact h
theorem w110_27 {S : zS} {d : Nat} {Q : zO → zT → Prop} {x1 : Int32} {y0 : Int32} (h : (y0 ≤ 0 → ∃ j1 : Nat, x1 = nI j1 ∧ j1 < 4 ∧ (zwp 100 (0, zent 100 [.inr (some (16, 0)), .inl (S 2112 0 j1)], [], (zu S 1024 0 0 y0, d)) (zaf 110 49 [some (.inr (some (16, 0))), some (.inl x1), none] [] Q))) ∧ (¬ y0 ≤ 0 → Q (.inl (some (.inl (nI 0)))) (zu S 1024 0 0 y0, d))) : zwp 110 (27, [some (.inr (some (16, 0))), some (.inl x1), none], [.inl y0, .inr (some (16, 0))], (S, d)) Q := by
  refine zwp_blk 3 (c' := (34, [some (.inr (some (16, 0))), some (.inl x1), none], [.inl y0], (zu S 1024 0 0 y0, d))) rfl ?_
  refine zwp_br rfl (fun hb => ?_) (fun hb => ?_)
  · show zwp 110 (39, [some (.inr (some (16, 0))), some (.inl x1), none], [], (zu S 1024 0 0 y0, d)) Q
    replace h := h.1 (of_decide_eq_true hb)
    refine zwp_blk 4 (c' := (45, [some (.inr (some (16, 0))), some (.inl x1), none], [.inl x1, .inr (some (33, 0)), .inr (some (16, 0))], (zu S 1024 0 0 y0, d))) rfl ?_
    obtain ⟨j1, ej1, lj1, h⟩ := h
    refine zwp_ldx (n := 4) (cd := 2112) (i := 0) (pc' := 46) (ls := [some (.inr (some (16, 0))), some (.inl x1), none]) (r := [.inr (some (16, 0))]) (t := (zu S 1024 0 0 y0, d)) rfl ej1 lj1 (by decide) ?_
    exact zwp_call rfl h
  · show zwp 110 (37, [some (.inr (some (16, 0))), some (.inl x1), none], [], (zu S 1024 0 0 y0, d)) Q
    replace h := h.2 (of_decide_eq_false hb)
    refine zwp_blk 1 (c' := (38, [some (.inr (some (16, 0))), some (.inl x1), none], [.inl (nI 0)], (zu S 1024 0 0 y0, d))) rfl ?_
    exact zwp_end rfl h
theorem w110_49 {S : zS} {d : Nat} {Q : zO → zT → Prop} {x1 : Int32} {y0 : Int32} (h : zwp 103 (0, zent 103 [.inr (some (16, 0)), .inl x1], [], (S, d)) (zaf 110 55 [some (.inr (some (16, 0))), some (.inl x1), some (.inl y0)] [] Q)) : zwp 110 (49, [some (.inr (some (16, 0))), some (.inl x1), none], [.inl y0], (S, d)) Q := by
  refine zwp_blk 3 (c' := (52, [some (.inr (some (16, 0))), some (.inl x1), some (.inl y0)], [.inl x1, .inr (some (16, 0))], (S, d))) rfl ?_
  exact zwp_call rfl h
theorem w110_55 {S : zS} {d : Nat} {Q : zO → zT → Prop} {x1 : Int32} {x2 : Int32} (h : Q (.inl (some (.inl x2))) (S, d)) : zwp 110 (55, [some (.inr (some (16, 0))), some (.inl x1), some (.inl x2)], [], (S, d)) Q := by
  refine zwp_blk 1 (c' := (56, [some (.inr (some (16, 0))), some (.inl x1), some (.inl x2)], [.inl x2], (S, d))) rfl ?_
  exact zwp_end rfl h
-- 111 PageKeeperModel.settle
theorem w111_0 {S : zS} {d : Nat} {Q : zO → zT → Prop}  (h : zwp 111 (9, [some (.inr (some (16, 0))), some (.inl (nI 0)), some (.inl (nI 1))], [], (zu S 1024 0 0 (nI 0), d)) Q) : zwp 111 (0, [some (.inr (some (16, 0))), none, none], [], (S, d)) Q := by
  refine zwp_blk 7 (c' := (9, [some (.inr (some (16, 0))), some (.inl (nI 0)), some (.inl (nI 1))], [], (zu S 1024 0 0 (nI 0), d))) rfl ?_
  exact h
theorem w111_9 {S : zS} {d : Nat} {Q : zO → zT → Prop} {x1 : Int32} {x2 : Int32} (h : ((S 1053 0 0) < x2 → Q (.inl (some (.inl x1))) (S, d)) ∧ (¬ (S 1053 0 0) < x2 → zwp 98 (0, zent 98 [.inr (some (16, 0)), .inl x2], [], (S, d)) (zaf 111 22 [some (.inr (some (16, 0))), some (.inl x1), some (.inl x2)] [] Q))) : zwp 111 (9, [some (.inr (some (16, 0))), some (.inl x1), some (.inl x2)], [], (S, d)) Q := by
  refine zwp_blk 3 (c' := (14, [some (.inr (some (16, 0))), some (.inl x1), some (.inl x2)], [.inl (S 1053 0 0), .inl x2], (S, d))) rfl ?_
  refine zwp_br rfl (fun hb => ?_) (fun hb => ?_)
  · show zwp 111 (40, [some (.inr (some (16, 0))), some (.inl x1), some (.inl x2)], [], (S, d)) Q
    replace h := h.1 (of_decide_eq_true hb)
    refine zwp_blk 1 (c' := (41, [some (.inr (some (16, 0))), some (.inl x1), some (.inl x2)], [.inl x1], (S, d))) rfl ?_
    exact zwp_end rfl h
  · show zwp 111 (17, [some (.inr (some (16, 0))), some (.inl x1), some (.inl x2)], [], (S, d)) Q
    replace h := h.2 (of_decide_eq_false hb)
    refine zwp_blk 2 (c' := (19, [some (.inr (some (16, 0))), some (.inl x1), some (.inl x2)], [.inl x2, .inr (some (16, 0))], (S, d))) rfl ?_
    exact zwp_call rfl h
theorem w111_22 {S : zS} {d : Nat} {Q : zO → zT → Prop} {x1 : Int32} {x2 : Int32} {y0 : Int32} (h : (y0 = 0 → zwp 111 (9, [some (.inr (some (16, 0))), some (.inl x1), some (.inl (x2 + nI 1))], [], (S, d)) Q) ∧ (¬ y0 = 0 → zwp 100 (0, zent 100 [.inr (some (16, 0)), .inl x2], [], (S, d)) (zaf 111 30 [some (.inr (some (16, 0))), some (.inl x1), some (.inl x2)] [] Q))) : zwp 111 (22, [some (.inr (some (16, 0))), some (.inl x1), some (.inl x2)], [.inl y0], (S, d)) Q := by
  refine zwp_br rfl (fun hb => ?_) (fun hb => ?_)
  · show zwp 111 (34, [some (.inr (some (16, 0))), some (.inl x1), some (.inl x2)], [], (S, d)) Q
    replace h := h.1 (of_decide_eq_true hb)
    refine zwp_blk 2 (c' := (9, [some (.inr (some (16, 0))), some (.inl x1), some (.inl (x2 + nI 1))], [], (S, d))) rfl ?_
    exact h
  · show zwp 111 (25, [some (.inr (some (16, 0))), some (.inl x1), some (.inl x2)], [], (S, d)) Q
    replace h := h.2 (of_decide_eq_false hb)
    refine zwp_blk 2 (c' := (27, [some (.inr (some (16, 0))), some (.inl x1), some (.inl x2)], [.inl x2, .inr (some (16, 0))], (S, d))) rfl ?_
    exact zwp_call rfl h
theorem w111_30 {S : zS} {d : Nat} {Q : zO → zT → Prop} {x1 : Int32} {x2 : Int32} {y0 : Int32} (h : zwp 111 (9, [some (.inr (some (16, 0))), some (.inl (x1 + nI 1)), some (.inl (x2 + nI 1))], [], (S, d)) Q) : zwp 111 (30, [some (.inr (some (16, 0))), some (.inl x1), some (.inl x2)], [.inl y0], (S, d)) Q := by
  refine zwp_blk 4 (c' := (9, [some (.inr (some (16, 0))), some (.inl (x1 + nI 1)), some (.inl (x2 + nI 1))], [], (S, d))) rfl ?_
  exact h
-- 112 PageKeeperModel.isPage
theorem w112_0 {S : zS} {d : Nat} {Q : zO → zT → Prop} {x1 : Int32} (h : zwp 77 (0, zent 77 [.inl x1, .inl (nI 0), .inl ((S 1038 0 0) - (nI 1))], [], (S, d)) (zaf 112 11 [some (.inr (some (16, 0))), some (.inl x1)] [] Q)) : zwp 112 (0, [some (.inr (some (16, 0))), some (.inl x1)], [], (S, d)) Q := by
  refine zwp_blk 6 (c' := (8, [some (.inr (some (16, 0))), some (.inl x1)], [.inl ((S 1038 0 0) - (nI 1)), .inl (nI 0), .inl x1], (S, d))) rfl ?_
  exact zwp_call rfl h
theorem w112_11 {S : zS} {d : Nat} {Q : zO → zT → Prop} {x1 : Int32} {y0 : Int32} (h : (y0 = 0 ∨ y0 = 1) ∧ Q (.inl (some (.inl y0))) (S, d)) : zwp 112 (11, [some (.inr (some (16, 0))), some (.inl x1)], [.inl y0], (S, d)) Q := by
  exact zwp_ret01 (x := y0) rfl h.1 h.2
-- 113 PageKeeperModel.flush
theorem w113_0 {S : zS} {d : Nat} {Q : zO → zT → Prop} {x1 : Int32} (h : zwp 112 (0, zent 112 [.inr (some (16, 0)), .inl x1], [], (zu S 1024 0 0 (nI 0), d)) (zaf 113 10 [some (.inr (some (16, 0))), some (.inl x1)] [] Q)) : zwp 113 (0, [some (.inr (some (16, 0))), some (.inl x1)], [], (S, d)) Q := by
  refine zwp_blk 5 (c' := (7, [some (.inr (some (16, 0))), some (.inl x1)], [.inl x1, .inr (some (16, 0))], (zu S 1024 0 0 (nI 0), d))) rfl ?_
  exact zwp_call rfl h
theorem w113_10 {S : zS} {d : Nat} {Q : zO → zT → Prop} {x1 : Int32} {y0 : Int32} (h : (y0 = 0 → Q (.inl (some (.inl (nI 0)))) (S, d)) ∧ (¬ y0 = 0 → ∃ j1 : Nat, x1 = nI j1 ∧ j1 < 48 ∧ (((S 1728 0 j1) = 0 → Q (.inl (some (.inl (nI 0)))) (S, d)) ∧ (¬ (S 1728 0 j1) = 0 → zwp 78 (0, zent 78 [.inr (some (16, 0)), .inl x1], [], (S, d)) (zaf 113 27 [some (.inr (some (16, 0))), some (.inl x1)] [] Q))))) : zwp 113 (10, [some (.inr (some (16, 0))), some (.inl x1)], [.inl y0], (S, d)) Q := by
  refine zwp_br rfl (fun hb => ?_) (fun hb => ?_)
  · show zwp 113 (36, [some (.inr (some (16, 0))), some (.inl x1)], [], (S, d)) Q
    replace h := h.1 (of_decide_eq_true hb)
    refine zwp_blk 1 (c' := (37, [some (.inr (some (16, 0))), some (.inl x1)], [.inl (nI 0)], (S, d))) rfl ?_
    exact zwp_ret01 (x := nI 0) rfl (by decide) h
  · show zwp 113 (13, [some (.inr (some (16, 0))), some (.inl x1)], [], (S, d)) Q
    replace h := h.2 (of_decide_eq_false hb)
    refine zwp_blk 3 (c' := (18, [some (.inr (some (16, 0))), some (.inl x1)], [.inl x1, .inr (some (27, 0))], (S, d))) rfl ?_
    obtain ⟨j1, ej1, lj1, h⟩ := h
    refine zwp_ldx (n := 48) (cd := 1728) (i := 0) (pc' := 19) (ls := [some (.inr (some (16, 0))), some (.inl x1)]) (r := []) (t := (S, d)) rfl ej1 lj1 (by decide) ?_
    refine zwp_br rfl (fun hb => ?_) (fun hb => ?_)
    · show zwp 113 (36, [some (.inr (some (16, 0))), some (.inl x1)], [], (S, d)) Q
      replace h := h.1 (of_decide_eq_true hb)
      refine zwp_blk 1 (c' := (37, [some (.inr (some (16, 0))), some (.inl x1)], [.inl (nI 0)], (S, d))) rfl ?_
      exact zwp_ret01 (x := nI 0) rfl (by decide) h
    · show zwp 113 (22, [some (.inr (some (16, 0))), some (.inl x1)], [], (S, d)) Q
      replace h := h.2 (of_decide_eq_false hb)
      refine zwp_blk 2 (c' := (24, [some (.inr (some (16, 0))), some (.inl x1)], [.inl x1, .inr (some (16, 0))], (S, d))) rfl ?_
      exact zwp_call rfl h
theorem w113_27 {S : zS} {d : Nat} {Q : zO → zT → Prop} {x1 : Int32} {y0 : Int32} (h : ∃ j1 : Nat, x1 = nI j1 ∧ j1 < 48 ∧ (((S 1792 0 j1) < y0 → zwp 84 (0, zent 84 [.inr (some (16, 0)), .inl x1], [], (S, d)) (zaf 113 43 [some (.inr (some (16, 0))), some (.inl x1)] [] Q)) ∧ (¬ (S 1792 0 j1) < y0 → Q (.inl (some (.inl (nI 0)))) (S, d)))) : zwp 113 (27, [some (.inr (some (16, 0))), some (.inl x1)], [.inl y0], (S, d)) Q := by
  refine zwp_blk 3 (c' := (32, [some (.inr (some (16, 0))), some (.inl x1)], [.inl x1, .inr (some (28, 0)), .inl y0], (S, d))) rfl ?_
  obtain ⟨j1, ej1, lj1, h⟩ := h
  refine zwp_ldx (n := 48) (cd := 1792) (i := 0) (pc' := 33) (ls := [some (.inr (some (16, 0))), some (.inl x1)]) (r := [.inl y0]) (t := (S, d)) rfl ej1 lj1 (by decide) ?_
  refine zwp_br rfl (fun hb => ?_) (fun hb => ?_)
  · show zwp 113 (38, [some (.inr (some (16, 0))), some (.inl x1)], [], (S, d)) Q
    replace h := h.1 (of_decide_eq_true hb)
    refine zwp_blk 2 (c' := (40, [some (.inr (some (16, 0))), some (.inl x1)], [.inl x1, .inr (some (16, 0))], (S, d))) rfl ?_
    exact zwp_call rfl h
  · show zwp 113 (36, [some (.inr (some (16, 0))), some (.inl x1)], [], (S, d)) Q
    replace h := h.2 (of_decide_eq_false hb)
    refine zwp_blk 1 (c' := (37, [some (.inr (some (16, 0))), some (.inl x1)], [.inl (nI 0)], (S, d))) rfl ?_
    exact zwp_ret01 (x := nI 0) rfl (by decide) h
theorem w113_43 {S : zS} {d : Nat} {Q : zO → zT → Prop} {x1 : Int32} (h : Q (.inl (some (.inl (nI 1)))) (S, d)) : zwp 113 (43, [some (.inr (some (16, 0))), some (.inl x1)], [], (S, d)) Q := by
  refine zwp_blk 1 (c' := (44, [some (.inr (some (16, 0))), some (.inl x1)], [.inl (nI 1)], (S, d))) rfl ?_
  exact zwp_ret01 (x := nI 1) rfl (by decide) h
-- 114 PageKeeperModel.backup
theorem w114_0 {S : zS} {d : Nat} {Q : zO → zT → Prop} {x1 : Int32} (h : zwp 112 (0, zent 112 [.inr (some (16, 0)), .inl x1], [], (zu S 1024 0 0 (nI 0), d)) (zaf 114 10 [some (.inr (some (16, 0))), some (.inl x1), none] [] Q)) : zwp 114 (0, [some (.inr (some (16, 0))), some (.inl x1), none], [], (S, d)) Q := by
  refine zwp_blk 5 (c' := (7, [some (.inr (some (16, 0))), some (.inl x1), none], [.inl x1, .inr (some (16, 0))], (zu S 1024 0 0 (nI 0), d))) rfl ?_
  exact zwp_call rfl h
theorem w114_10 {S : zS} {d : Nat} {Q : zO → zT → Prop} {x1 : Int32} {y0 : Int32} (h : (y0 = 0 → Q (.inl (some (.inl (nI 0)))) (S, d)) ∧ (¬ y0 = 0 → zwp 86 (0, zent 86 [.inr (some (16, 0)), .inl x1], [], (S, d)) (zaf 114 20 [some (.inr (some (16, 0))), some (.inl x1), none] [] Q))) : zwp 114 (10, [some (.inr (some (16, 0))), some (.inl x1), none], [.inl y0], (S, d)) Q := by
  refine zwp_br rfl (fun hb => ?_) (fun hb => ?_)
  · show zwp 114 (15, [some (.inr (some (16, 0))), some (.inl x1), none], [], (S, d)) Q
    replace h := h.2 (zne_t hb)
    refine zwp_blk 2 (c' := (17, [some (.inr (some (16, 0))), some (.inl x1), none], [.inl x1, .inr (some (16, 0))], (S, d))) rfl ?_
    exact zwp_call rfl h
  · show zwp 114 (13, [some (.inr (some (16, 0))), some (.inl x1), none], [], (S, d)) Q
    replace h := h.1 (zne_f hb)
    refine zwp_blk 1 (c' := (14, [some (.inr (some (16, 0))), some (.inl x1), none], [.inl (nI 0)], (S, d))) rfl ?_
    exact zwp_ret01 (x := nI 0) rfl (by decide) h
theorem w114_20 {S : zS} {d : Nat} {Q : zO → zT → Prop} {x1 : Int32} (h : zwp 78 (0, zent 78 [.inr (some (16, 0)), .inl x1], [], (S, d)) (zaf 114 25 [some (.inr (some (16, 0))), some (.inl x1), none] [] Q)) : zwp 114 (20, [some (.inr (some (16, 0))), some (.inl x1), none], [], (S, d)) Q := by
  refine zwp_blk 2 (c' := (22, [some (.inr (some (16, 0))), some (.inl x1), none], [.inl x1, .inr (some (16, 0))], (S, d))) rfl ?_
  exact zwp_call rfl h
theorem w114_25 {S : zS} {d : Nat} {Q : zO → zT → Prop} {x1 : Int32} {y0 : Int32} (h : zwp 83 (0, zent 83 [.inr (some (16, 0)), .inl y0], [], (S, d)) (zaf 114 31 [some (.inr (some (16, 0))), some (.inl x1), some (.inl y0)] [] Q)) : zwp 114 (25, [some (.inr (some (16, 0))), some (.inl x1), none], [.inl y0], (S, d)) Q := by
  refine zwp_blk 3 (c' := (28, [some (.inr (some (16, 0))), some (.inl x1), some (.inl y0)], [.inl y0, .inr (some (16, 0))], (S, d))) rfl ?_
  exact zwp_call rfl h
theorem w114_31 {S : zS} {d : Nat} {Q : zO → zT → Prop} {x1 : Int32} {x2 : Int32} (h : ∃ j1 : Nat, x1 = nI j1 ∧ j1 < 48 ∧ (Q (.inl (some (.inl (nI 1)))) (zu S 1920 0 j1 x2, d))) : zwp 114 (31, [some (.inr (some (16, 0))), some (.inl x1), some (.inl x2)], [], (S, d)) Q := by
  refine zwp_blk 4 (c' := (37, [some (.inr (some (16, 0))), some (.inl x1), some (.inl x2)], [.inl x2, .inl x1, .inr (some (30, 0))], (S, d))) rfl ?_
  obtain ⟨j1, ej1, lj1, h⟩ := h
  refine zwp_stx (n := 48) (cd := 1920) (i := 0) (v := x2) (pc' := 38) (ls := [some (.inr (some (16, 0))), some (.inl x1), some (.inl x2)]) (r := []) (t := (S, d)) rfl ej1 lj1 (by decide) ?_
  refine zwp_blk 1 (c' := (39, [some (.inr (some (16, 0))), some (.inl x1), some (.inl x2)], [.inl (nI 1)], (zu S 1920 0 j1 x2, d))) rfl ?_
  exact zwp_ret01 (x := nI 1) rfl (by decide) h
-- 115 PageKeeperModel.damage
theorem w115_0 {S : zS} {d : Nat} {Q : zO → zT → Prop} {x1 : Int32} (h : zwp 112 (0, zent 112 [.inr (some (16, 0)), .inl x1], [], (zu S 1024 0 0 (nI 0), d)) (zaf 115 10 [some (.inr (some (16, 0))), some (.inl x1)] [] Q)) : zwp 115 (0, [some (.inr (some (16, 0))), some (.inl x1)], [], (S, d)) Q := by
  refine zwp_blk 5 (c' := (7, [some (.inr (some (16, 0))), some (.inl x1)], [.inl x1, .inr (some (16, 0))], (zu S 1024 0 0 (nI 0), d))) rfl ?_
  exact zwp_call rfl h
theorem w115_10 {S : zS} {d : Nat} {Q : zO → zT → Prop} {x1 : Int32} {y0 : Int32} (h : (y0 = 0 → Q (.inl (some (.inl (nI 0)))) (S, d)) ∧ (¬ y0 = 0 → ∃ j1 : Nat, x1 = nI j1 ∧ j1 < 48 ∧ (((S 1856 0 j1) = 0 → ∃ j2 : Nat, x1 = nI j2 ∧ j2 < 48 ∧ (Q (.inl (some (.inl (nI 1)))) (zu S 1856 0 j2 (vp_nar .boolean (nI 1)), d))) ∧ (¬ (S 1856 0 j1) = 0 → Q (.inl (some (.inl (nI 0)))) (S, d))))) : zwp 115 (10, [some (.inr (some (16, 0))), some (.inl x1)], [.inl y0], (S, d)) Q := by
  refine zwp_br rfl (fun hb => ?_) (fun hb => ?_)
  · show zwp 115 (22, [some (.inr (some (16, 0))), some (.inl x1)], [], (S, d)) Q
    replace h := h.1 (of_decide_eq_true hb)
    refine zwp_blk 1 (c' := (23, [some (.inr (some (16, 0))), some (.inl x1)], [.inl (nI 0)], (S, d))) rfl ?_
    exact zwp_ret01 (x := nI 0) rfl (by decide) h
  · show zwp 115 (13, [some (.inr (some (16, 0))), some (.inl x1)], [], (S, d)) Q
    replace h := h.2 (of_decide_eq_false hb)
    refine zwp_blk 3 (c' := (18, [some (.inr (some (16, 0))), some (.inl x1)], [.inl x1, .inr (some (29, 0))], (S, d))) rfl ?_
    obtain ⟨j1, ej1, lj1, h⟩ := h
    refine zwp_ldx (n := 48) (cd := 1856) (i := 0) (pc' := 19) (ls := [some (.inr (some (16, 0))), some (.inl x1)]) (r := []) (t := (S, d)) rfl ej1 lj1 (by decide) ?_
    refine zwp_br rfl (fun hb => ?_) (fun hb => ?_)
    · show zwp 115 (24, [some (.inr (some (16, 0))), some (.inl x1)], [], (S, d)) Q
      replace h := h.1 (of_decide_eq_true hb)
      refine zwp_blk 4 (c' := (30, [some (.inr (some (16, 0))), some (.inl x1)], [.inl (nI 1), .inl x1, .inr (some (29, 0))], (S, d))) rfl ?_
      obtain ⟨j2, ej2, lj2, h⟩ := h
      refine zwp_stx (n := 48) (cd := 1856) (i := 0) (v := vp_nar .boolean (nI 1)) (pc' := 31) (ls := [some (.inr (some (16, 0))), some (.inl x1)]) (r := []) (t := (S, d)) rfl ej2 lj2 (by decide) ?_
      refine zwp_blk 1 (c' := (32, [some (.inr (some (16, 0))), some (.inl x1)], [.inl (nI 1)], (zu S 1856 0 j2 (vp_nar .boolean (nI 1)), d))) rfl ?_
      exact zwp_ret01 (x := nI 1) rfl (by decide) h
    · show zwp 115 (22, [some (.inr (some (16, 0))), some (.inl x1)], [], (S, d)) Q
      replace h := h.2 (of_decide_eq_false hb)
      refine zwp_blk 1 (c' := (23, [some (.inr (some (16, 0))), some (.inl x1)], [.inl (nI 0)], (S, d))) rfl ?_
      exact zwp_ret01 (x := nI 0) rfl (by decide) h
-- 116 PageKeeperModel.crash
theorem w116_0 {S : zS} {d : Nat} {Q : zO → zT → Prop}  (h : zwp 116 (25, [some (.inr (some (16, 0))), some (.inl (nI 1))], [], (zu (zu (zu (zu S 1024 0 0 (nI 0)) 1025 0 0 (S 1026 0 0)) 1036 0 0 (nI 0)) 1038 0 0 (nI 1), d)) Q) : zwp 116 (0, [some (.inr (some (16, 0))), none], [], (S, d)) Q := by
  refine zwp_blk 15 (c' := (25, [some (.inr (some (16, 0))), some (.inl (nI 1))], [], (zu (zu (zu (zu S 1024 0 0 (nI 0)) 1025 0 0 (S 1026 0 0)) 1036 0 0 (nI 0)) 1038 0 0 (nI 1), d))) rfl ?_
  exact h
theorem w116_25 {S : zS} {d : Nat} {Q : zO → zT → Prop} {x1 : Int32} (h : ((S 1025 0 0) < x1 → zwp 116 (108, [some (.inr (some (16, 0))), some (.inl (nI 0))], [], (S, d)) Q) ∧ (¬ (S 1025 0 0) < x1 → ∃ j1 : Nat, x1 = nI j1 ∧ j1 < 1300 ∧ (((S 1088 0 j1) = (nI 3) → zwp 116 (53, [some (.inr (some (16, 0))), some (.inl x1)], [.inl (nI 1), .inl (S 1036 0 0), .inr (some (16, 0))], (S, d)) Q) ∧ (¬ (S 1088 0 j1) = (nI 3) → zwp 116 (53, [some (.inr (some (16, 0))), some (.inl x1)], [.inl (nI 0), .inl (S 1036 0 0), .inr (some (16, 0))], (S, d)) Q)))) : zwp 116 (25, [some (.inr (some (16, 0))), some (.inl x1)], [], (S, d)) Q := by
  refine zwp_blk 3 (c' := (30, [some (.inr (some (16, 0))), some (.inl x1)], [.inl (S 1025 0 0), .inl x1], (S, d))) rfl ?_
  refine zwp_br rfl (fun hb => ?_) (fun hb => ?_)
  · show zwp 116 (106, [some (.inr (some (16, 0))), some (.inl x1)], [], (S, d)) Q
    replace h := h.1 (of_decide_eq_true hb)
    refine zwp_blk 2 (c' := (108, [some (.inr (some (16, 0))), some (.inl (nI 0))], [], (S, d))) rfl ?_
    exact h
  · show zwp 116 (33, [some (.inr (some (16, 0))), some (.inl x1)], [], (S, d)) Q
    replace h := h.2 (of_decide_eq_false hb)
    refine zwp_blk 6 (c' := (43, [some (.inr (some (16, 0))), some (.inl x1)], [.inl x1, .inr (some (17, 0)), .inl (S 1036 0 0), .inr (some (16, 0))], (S, d))) rfl ?_
    obtain ⟨j1, ej1, lj1, h⟩ := h
    refine zwp_ldx (n := 1300) (cd := 1088) (i := 0) (pc' := 44) (ls := [some (.inr (some (16, 0))), some (.inl x1)]) (r := [.inl (S 1036 0 0), .inr (some (16, 0))]) (t := (S, d)) rfl ej1 lj1 (by decide) ?_
    refine zwp_blk 1 (c' := (45, [some (.inr (some (16, 0))), some (.inl x1)], [.inl (nI 3), .inl (S 1088 0 j1), .inl (S 1036 0 0), .inr (some (16, 0))], (S, d))) rfl ?_
    refine zwp_br rfl (fun hb => ?_) (fun hb => ?_)
    · show zwp 116 (52, [some (.inr (some (16, 0))), some (.inl x1)], [.inl (S 1036 0 0), .inr (some (16, 0))], (S, d)) Q
      replace h := h.2 (zne_t hb)
      refine zwp_blk 1 (c' := (53, [some (.inr (some (16, 0))), some (.inl x1)], [.inl (nI 0), .inl (S 1036 0 0), .inr (some (16, 0))], (S, d))) rfl ?_
      exact h
    · show zwp 116 (48, [some (.inr (some (16, 0))), some (.inl x1)], [.inl (S 1036 0 0), .inr (some (16, 0))], (S, d)) Q
      replace h := h.1 (zne_f hb)
      refine zwp_blk 2 (c' := (53, [some (.inr (some (16, 0))), some (.inl x1)], [.inl (nI 1), .inl (S 1036 0 0), .inr (some (16, 0))], (S, d))) rfl ?_
      exact h
theorem w116_53 {S : zS} {d : Nat} {Q : zO → zT → Prop} {x1 : Int32} {y0 : Int32} {y1 : Int32} (h : ∃ j1 : Nat, x1 = nI j1 ∧ j1 < 1300 ∧ (((nI 6) ≤ (S 1088 0 j1) → zwp 116 (25, [some (.inr (some (16, 0))), some (.inl (x1 + nI 1))], [], (zu (zu S 1036 0 0 (y1 + y0)) 1038 0 0 (S 1038 0 0), d)) Q) ∧ (¬ (nI 6) ≤ (S 1088 0 j1) → ∃ j2 : Nat, x1 = nI j2 ∧ j2 < 1300 ∧ (((S 1152 0 j2) < (S 1038 0 0) → zwp 116 (25, [some (.inr (some (16, 0))), some (.inl (x1 + nI 1))], [], (zu (zu S 1036 0 0 (y1 + y0)) 1038 0 0 (S 1038 0 0), d)) Q) ∧ (¬ (S 1152 0 j2) < (S 1038 0 0) → ∃ j3 : Nat, x1 = nI j3 ∧ j3 < 1300 ∧ (zwp 116 (25, [some (.inr (some (16, 0))), some (.inl (x1 + nI 1))], [], (zu (zu S 1036 0 0 (y1 + y0)) 1038 0 0 ((S 1152 0 j3) + (nI 1)), d)) Q)))))) : zwp 116 (53, [some (.inr (some (16, 0))), some (.inl x1)], [.inl y0, .inl y1, .inr (some (16, 0))], (S, d)) Q := by
  refine zwp_blk 6 (c' := (63, [some (.inr (some (16, 0))), some (.inl x1)], [.inl x1, .inr (some (17, 0)), .inr (some (16, 0))], (zu S 1036 0 0 (y1 + y0), d))) rfl ?_
  obtain ⟨j1, ej1, lj1, h⟩ := h
  refine zwp_ldx (n := 1300) (cd := 1088) (i := 0) (pc' := 64) (ls := [some (.inr (some (16, 0))), some (.inl x1)]) (r := [.inr (some (16, 0))]) (t := (zu S 1036 0 0 (y1 + y0), d)) rfl ej1 lj1 (by decide) ?_
  refine zwp_blk 1 (c' := (66, [some (.inr (some (16, 0))), some (.inl x1)], [.inl (nI 6), .inl (S 1088 0 j1), .inr (some (16, 0))], (zu S 1036 0 0 (y1 + y0), d))) rfl ?_
  refine zwp_br rfl (fun hb => ?_) (fun hb => ?_)
  · show zwp 116 (93, [some (.inr (some (16, 0))), some (.inl x1)], [.inr (some (16, 0))], (zu S 1036 0 0 (y1 + y0), d)) Q
    replace h := h.1 (of_decide_eq_true hb)
    refine zwp_blk 5 (c' := (25, [some (.inr (some (16, 0))), some (.inl (x1 + nI 1))], [], (zu (zu S 1036 0 0 (y1 + y0)) 1038 0 0 (S 1038 0 0), d))) rfl ?_
    exact h
  · show zwp 116 (69, [some (.inr (some (16, 0))), some (.inl x1)], [.inr (some (16, 0))], (zu S 1036 0 0 (y1 + y0), d)) Q
    replace h := h.2 (of_decide_eq_false hb)
    refine zwp_blk 3 (c' := (74, [some (.inr (some (16, 0))), some (.inl x1)], [.inl x1, .inr (some (18, 0)), .inr (some (16, 0))], (zu S 1036 0 0 (y1 + y0), d))) rfl ?_
    obtain ⟨j2, ej2, lj2, h⟩ := h
    refine zwp_ldx (n := 1300) (cd := 1152) (i := 0) (pc' := 75) (ls := [some (.inr (some (16, 0))), some (.inl x1)]) (r := [.inr (some (16, 0))]) (t := (zu S 1036 0 0 (y1 + y0), d)) rfl ej2 lj2 (by decide) ?_
    refine zwp_blk 2 (c' := (79, [some (.inr (some (16, 0))), some (.inl x1)], [.inl (S 1038 0 0), .inl (S 1152 0 j2), .inr (some (16, 0))], (zu S 1036 0 0 (y1 + y0), d))) rfl ?_
    refine zwp_br rfl (fun hb => ?_) (fun hb => ?_)
    · show zwp 116 (93, [some (.inr (some (16, 0))), some (.inl x1)], [.inr (some (16, 0))], (zu S 1036 0 0 (y1 + y0), d)) Q
      replace h := h.1 (of_decide_eq_true hb)
      refine zwp_blk 5 (c' := (25, [some (.inr (some (16, 0))), some (.inl (x1 + nI 1))], [], (zu (zu S 1036 0 0 (y1 + y0)) 1038 0 0 (S 1038 0 0), d))) rfl ?_
      exact h
    · show zwp 116 (82, [some (.inr (some (16, 0))), some (.inl x1)], [.inr (some (16, 0))], (zu S 1036 0 0 (y1 + y0), d)) Q
      replace h := h.2 (of_decide_eq_false hb)
      refine zwp_blk 3 (c' := (87, [some (.inr (some (16, 0))), some (.inl x1)], [.inl x1, .inr (some (18, 0)), .inr (some (16, 0))], (zu S 1036 0 0 (y1 + y0), d))) rfl ?_
      obtain ⟨j3, ej3, lj3, h⟩ := h
      refine zwp_ldx (n := 1300) (cd := 1152) (i := 0) (pc' := 88) (ls := [some (.inr (some (16, 0))), some (.inl x1)]) (r := [.inr (some (16, 0))]) (t := (zu S 1036 0 0 (y1 + y0), d)) rfl ej3 lj3 (by decide) ?_
      refine zwp_blk 6 (c' := (25, [some (.inr (some (16, 0))), some (.inl (x1 + nI 1))], [], (zu (zu S 1036 0 0 (y1 + y0)) 1038 0 0 ((S 1152 0 j3) + (nI 1)), d))) rfl ?_
      exact h
theorem w116_108 {S : zS} {d : Nat} {Q : zO → zT → Prop} {x1 : Int32} (h : ((nI 48) ≤ x1 → zwp 116 (151, [some (.inr (some (16, 0))), some (.inl (nI 0))], [], (S, d)) Q) ∧ (¬ (nI 48) ≤ x1 → ∃ j1 : Nat, x1 = nI j1 ∧ j1 < 48 ∧ ((x1 < (S 1038 0 0) → zwp 116 (108, [some (.inr (some (16, 0))), some (.inl (x1 + nI 1))], [], (zu S 1728 0 j1 ((nI 0)), d)) Q) ∧ (¬ x1 < (S 1038 0 0) → ∃ j2 : Nat, x1 = nI j2 ∧ j2 < 48 ∧ (∃ j3 : Nat, x1 = nI j3 ∧ j3 < 48 ∧ (zwp 116 (108, [some (.inr (some (16, 0))), some (.inl (x1 + nI 1))], [], (zu (zu (zu S 1728 0 j1 ((nI 0))) 1792 0 j2 ((nI 0))) 1856 0 j3 (vp_nar .boolean (nI 0)), d)) Q)))))) : zwp 116 (108, [some (.inr (some (16, 0))), some (.inl x1)], [], (S, d)) Q := by
  refine zwp_blk 2 (c' := (111, [some (.inr (some (16, 0))), some (.inl x1)], [.inl (nI 48), .inl x1], (S, d))) rfl ?_
  refine zwp_br rfl (fun hb => ?_) (fun hb => ?_)
  · show zwp 116 (149, [some (.inr (some (16, 0))), some (.inl x1)], [], (S, d)) Q
    replace h := h.1 (of_decide_eq_true hb)
    refine zwp_blk 2 (c' := (151, [some (.inr (some (16, 0))), some (.inl (nI 0))], [], (S, d))) rfl ?_
    exact h
  · show zwp 116 (114, [some (.inr (some (16, 0))), some (.inl x1)], [], (S, d)) Q
    replace h := h.2 (of_decide_eq_false hb)
    refine zwp_blk 4 (c' := (120, [some (.inr (some (16, 0))), some (.inl x1)], [.inl (nI 0), .inl x1, .inr (some (27, 0))], (S, d))) rfl ?_
    obtain ⟨j1, ej1, lj1, h⟩ := h
    refine zwp_stx (n := 48) (cd := 1728) (i := 0) (v := (nI 0)) (pc' := 121) (ls := [some (.inr (some (16, 0))), some (.inl x1)]) (r := []) (t := (S, d)) rfl ej1 lj1 (by decide) ?_
    refine zwp_blk 3 (c' := (126, [some (.inr (some (16, 0))), some (.inl x1)], [.inl (S 1038 0 0), .inl x1], (zu S 1728 0 j1 ((nI 0)), d))) rfl ?_
    refine zwp_br rfl (fun hb => ?_) (fun hb => ?_)
    · show zwp 116 (143, [some (.inr (some (16, 0))), some (.inl x1)], [], (zu S 1728 0 j1 ((nI 0)), d)) Q
      replace h := h.1 (of_decide_eq_true hb)
      refine zwp_blk 2 (c' := (108, [some (.inr (some (16, 0))), some (.inl (x1 + nI 1))], [], (zu S 1728 0 j1 ((nI 0)), d))) rfl ?_
      exact h
    · show zwp 116 (129, [some (.inr (some (16, 0))), some (.inl x1)], [], (zu S 1728 0 j1 ((nI 0)), d)) Q
      replace h := h.2 (of_decide_eq_false hb)
      refine zwp_blk 4 (c' := (135, [some (.inr (some (16, 0))), some (.inl x1)], [.inl (nI 0), .inl x1, .inr (some (28, 0))], (zu S 1728 0 j1 ((nI 0)), d))) rfl ?_
      obtain ⟨j2, ej2, lj2, h⟩ := h
      refine zwp_stx (n := 48) (cd := 1792) (i := 0) (v := (nI 0)) (pc' := 136) (ls := [some (.inr (some (16, 0))), some (.inl x1)]) (r := []) (t := (zu S 1728 0 j1 ((nI 0)), d)) rfl ej2 lj2 (by decide) ?_
      refine zwp_blk 4 (c' := (142, [some (.inr (some (16, 0))), some (.inl x1)], [.inl (nI 0), .inl x1, .inr (some (29, 0))], (zu (zu S 1728 0 j1 ((nI 0))) 1792 0 j2 ((nI 0)), d))) rfl ?_
      obtain ⟨j3, ej3, lj3, h⟩ := h
      refine zwp_stx (n := 48) (cd := 1856) (i := 0) (v := vp_nar .boolean (nI 0)) (pc' := 143) (ls := [some (.inr (some (16, 0))), some (.inl x1)]) (r := []) (t := (zu (zu S 1728 0 j1 ((nI 0))) 1792 0 j2 ((nI 0)), d)) rfl ej3 lj3 (by decide) ?_
      refine zwp_blk 2 (c' := (108, [some (.inr (some (16, 0))), some (.inl (x1 + nI 1))], [], (zu (zu (zu S 1728 0 j1 ((nI 0))) 1792 0 j2 ((nI 0))) 1856 0 j3 (vp_nar .boolean (nI 0)), d))) rfl ?_
      exact h
theorem w116_151 {S : zS} {d : Nat} {Q : zO → zT → Prop} {x1 : Int32} (h : ((nI 4) ≤ x1 → zwp 117 (0, zent 117 [.inr (some (16, 0))], [], (S, d)) (zaf 116 171 [some (.inr (some (16, 0))), some (.inl x1)] [] Q)) ∧ (¬ (nI 4) ≤ x1 → zwp 103 (0, zent 103 [.inr (some (16, 0)), .inl x1], [], (S, d)) (zaf 116 161 [some (.inr (some (16, 0))), some (.inl x1)] [] Q))) : zwp 116 (151, [some (.inr (some (16, 0))), some (.inl x1)], [], (S, d)) Q := by
  refine zwp_blk 2 (c' := (153, [some (.inr (some (16, 0))), some (.inl x1)], [.inl (nI 4), .inl x1], (S, d))) rfl ?_
  refine zwp_br rfl (fun hb => ?_) (fun hb => ?_)
  · show zwp 116 (167, [some (.inr (some (16, 0))), some (.inl x1)], [], (S, d)) Q
    replace h := h.1 (of_decide_eq_true hb)
    refine zwp_blk 1 (c' := (168, [some (.inr (some (16, 0))), some (.inl x1)], [.inr (some (16, 0))], (S, d))) rfl ?_
    exact zwp_call rfl h
  · show zwp 116 (156, [some (.inr (some (16, 0))), some (.inl x1)], [], (S, d)) Q
    replace h := h.2 (of_decide_eq_false hb)
    refine zwp_blk 2 (c' := (158, [some (.inr (some (16, 0))), some (.inl x1)], [.inl x1, .inr (some (16, 0))], (S, d))) rfl ?_
    exact zwp_call rfl h
theorem w116_161 {S : zS} {d : Nat} {Q : zO → zT → Prop} {x1 : Int32} (h : zwp 116 (151, [some (.inr (some (16, 0))), some (.inl (x1 + nI 1))], [], (S, d)) Q) : zwp 116 (161, [some (.inr (some (16, 0))), some (.inl x1)], [], (S, d)) Q := by
  refine zwp_blk 2 (c' := (151, [some (.inr (some (16, 0))), some (.inl (x1 + nI 1))], [], (S, d))) rfl ?_
  exact h
theorem w116_171 {S : zS} {d : Nat} {Q : zO → zT → Prop} {x1 : Int32} {y0 : Int32} (h : Q (.inl (some (.inl y0))) (S, d)) : zwp 116 (171, [some (.inr (some (16, 0))), some (.inl x1)], [.inl y0], (S, d)) Q := by
  exact zwp_end rfl h
-- 117 PageKeeperModel.losers
theorem w117_0 {S : zS} {d : Nat} {Q : zO → zT → Prop}  (h : zwp 117 (4, [some (.inr (some (16, 0))), some (.inl (nI 0)), some (.inl (nI 1))], [], (S, d)) Q) : zwp 117 (0, [some (.inr (some (16, 0))), none, none], [], (S, d)) Q := by
  refine zwp_blk 4 (c' := (4, [some (.inr (some (16, 0))), some (.inl (nI 0)), some (.inl (nI 1))], [], (S, d))) rfl ?_
  exact h
theorem w117_4 {S : zS} {d : Nat} {Q : zO → zT → Prop} {x1 : Int32} {x2 : Int32} (h : ((S 1053 0 0) < x2 → Q (.inl (some (.inl x1))) (S, d)) ∧ (¬ (S 1053 0 0) < x2 → zwp 98 (0, zent 98 [.inr (some (16, 0)), .inl x2], [], (S, d)) (zaf 117 18 [some (.inr (some (16, 0))), some (.inl x1), some (.inl x2)] [.inl x1] Q))) : zwp 117 (4, [some (.inr (some (16, 0))), some (.inl x1), some (.inl x2)], [], (S, d)) Q := by
  refine zwp_blk 3 (c' := (9, [some (.inr (some (16, 0))), some (.inl x1), some (.inl x2)], [.inl (S 1053 0 0), .inl x2], (S, d))) rfl ?_
  refine zwp_br rfl (fun hb => ?_) (fun hb => ?_)
  · show zwp 117 (34, [some (.inr (some (16, 0))), some (.inl x1), some (.inl x2)], [], (S, d)) Q
    replace h := h.1 (of_decide_eq_true hb)
    refine zwp_blk 1 (c' := (35, [some (.inr (some (16, 0))), some (.inl x1), some (.inl x2)], [.inl x1], (S, d))) rfl ?_
    exact zwp_end rfl h
  · show zwp 117 (12, [some (.inr (some (16, 0))), some (.inl x1), some (.inl x2)], [], (S, d)) Q
    replace h := h.2 (of_decide_eq_false hb)
    refine zwp_blk 3 (c' := (15, [some (.inr (some (16, 0))), some (.inl x1), some (.inl x2)], [.inl x2, .inr (some (16, 0)), .inl x1], (S, d))) rfl ?_
    exact zwp_call rfl h
theorem w117_18 {S : zS} {d : Nat} {Q : zO → zT → Prop} {x1 : Int32} {x2 : Int32} {y0 : Int32} {y1 : Int32} (h : (y0 = 0 → zwp 117 (4, [some (.inr (some (16, 0))), some (.inl (y1 + (nI 0))), some (.inl (x2 + nI 1))], [], (S, d)) Q) ∧ (¬ y0 = 0 → zwp 117 (4, [some (.inr (some (16, 0))), some (.inl (y1 + (nI 1))), some (.inl (x2 + nI 1))], [], (S, d)) Q)) : zwp 117 (18, [some (.inr (some (16, 0))), some (.inl x1), some (.inl x2)], [.inl y0, .inl y1], (S, d)) Q := by
  refine zwp_br rfl (fun hb => ?_) (fun hb => ?_)
  · show zwp 117 (25, [some (.inr (some (16, 0))), some (.inl x1), some (.inl x2)], [.inl y1], (S, d)) Q
    replace h := h.1 (of_decide_eq_true hb)
    refine zwp_blk 5 (c' := (4, [some (.inr (some (16, 0))), some (.inl (y1 + (nI 0))), some (.inl (x2 + nI 1))], [], (S, d))) rfl ?_
    exact h
  · show zwp 117 (21, [some (.inr (some (16, 0))), some (.inl x1), some (.inl x2)], [.inl y1], (S, d)) Q
    replace h := h.2 (of_decide_eq_false hb)
    refine zwp_blk 6 (c' := (4, [some (.inr (some (16, 0))), some (.inl (y1 + (nI 1))), some (.inl (x2 + nI 1))], [], (S, d))) rfl ?_
    exact h
-- 118 PageKeeperModel.page
theorem w118_0 {S : zS} {d : Nat} {Q : zO → zT → Prop} {x1 : Int32} {x2 : Int32} (h : zwp 112 (0, zent 112 [.inr (some (16, 0)), .inl x1], [], (zu S 1024 0 0 (nI 0), d)) (zaf 118 10 [some (.inr (some (16, 0))), some (.inl x1), some (.inl x2), none, none] [] Q)) : zwp 118 (0, [some (.inr (some (16, 0))), some (.inl x1), some (.inl x2), none, none], [], (S, d)) Q := by
  refine zwp_blk 5 (c' := (7, [some (.inr (some (16, 0))), some (.inl x1), some (.inl x2), none, none], [.inl x1, .inr (some (16, 0))], (zu S 1024 0 0 (nI 0), d))) rfl ?_
  exact zwp_call rfl h
theorem w118_10 {S : zS} {d : Nat} {Q : zO → zT → Prop} {x1 : Int32} {x2 : Int32} {y0 : Int32} (h : (y0 = 0 → Q (.inl (some (.inl (zint (-1))))) (S, d)) ∧ (¬ y0 = 0 → zwp 118 (20, [some (.inr (some (16, 0))), some (.inl x1), some (.inl x2), some (.inl (nI 0)), some (.inl (nI 1))], [], (S, d)) Q)) : zwp 118 (10, [some (.inr (some (16, 0))), some (.inl x1), some (.inl x2), none, none], [.inl y0], (S, d)) Q := by
  refine zwp_br rfl (fun hb => ?_) (fun hb => ?_)
  · show zwp 118 (15, [some (.inr (some (16, 0))), some (.inl x1), some (.inl x2), none, none], [], (S, d)) Q
    replace h := h.2 (zne_t hb)
    refine zwp_blk 4 (c' := (20, [some (.inr (some (16, 0))), some (.inl x1), some (.inl x2), some (.inl (nI 0)), some (.inl (nI 1))], [], (S, d))) rfl ?_
    exact h
  · show zwp 118 (13, [some (.inr (some (16, 0))), some (.inl x1), some (.inl x2), none, none], [], (S, d)) Q
    replace h := h.1 (zne_f hb)
    refine zwp_blk 1 (c' := (14, [some (.inr (some (16, 0))), some (.inl x1), some (.inl x2), none, none], [.inl (zint (-1))], (S, d))) rfl ?_
    exact zwp_end rfl h
theorem w118_20 {S : zS} {d : Nat} {Q : zO → zT → Prop} {x1 : Int32} {x2 : Int32} {x3 : Int32} {x4 : Int32} (h : ((S 1025 0 0) < x4 → (x2 = nI 0 → ∃ j1 : Nat, x1 = nI j1 ∧ j1 < 48 ∧ (((S 1728 0 j1) ≤ 0 → Q (.inl (some (.inl (nI 0)))) (S, d)) ∧ (¬ (S 1728 0 j1) ≤ 0 → Q (.inl (some (.inl (nI 1)))) (S, d)))) ∧ (x2 = nI 1 → ∃ j2 : Nat, x1 = nI j2 ∧ j2 < 48 ∧ (Q (.inl (some (.inl (S 1792 0 j2)))) (S, d))) ∧ (x2 = nI 2 → ∃ j3 : Nat, x1 = nI j3 ∧ j3 < 48 ∧ (Q (.inl (some (.inl (S 1920 0 j3)))) (S, d))) ∧ (x2 = nI 3 → ∃ j4 : Nat, x1 = nI j4 ∧ j4 < 48 ∧ (((S 1856 0 j4) = 0 → Q (.inl (some (.inl (nI 0)))) (S, d)) ∧ (¬ (S 1856 0 j4) = 0 → Q (.inl (some (.inl (nI 1)))) (S, d)))) ∧ (x2 = nI 4 → zwp 78 (0, zent 78 [.inr (some (16, 0)), .inl x1], [], (S, d)) (zaf 118 153 [some (.inr (some (16, 0))), some (.inl x1), some (.inl x2), some (.inl x3), some (.inl x4)] [] Q)) ∧ (x2 = nI 5 → Q (.inl (some (.inl x3))) (S, d)) ∧ (¬ x2 = nI 0 → ¬ x2 = nI 1 → ¬ x2 = nI 2 → ¬ x2 = nI 3 → ¬ x2 = nI 4 → ¬ x2 = nI 5 → Q (.inl (some (.inl (zint (-1))))) (S, d))) ∧ (¬ (S 1025 0 0) < x4 → ∃ j5 : Nat, x4 = nI j5 ∧ j5 < 1300 ∧ (((nI 6) ≤ (S 1088 0 j5) → zwp 118 (20, [some (.inr (some (16, 0))), some (.inl x1), some (.inl x2), some (.inl (x3 + (nI 0))), some (.inl (x4 + nI 1))], [], (S, d)) Q) ∧ (¬ (nI 6) ≤ (S 1088 0 j5) → ∃ j6 : Nat, x4 = nI j6 ∧ j6 < 1300 ∧ (((S 1152 0 j6) = x1 → zwp 118 (20, [some (.inr (some (16, 0))), some (.inl x1), some (.inl x2), some (.inl (x3 + (nI 1))), some (.inl (x4 + nI 1))], [], (S, d)) Q) ∧ (¬ (S 1152 0 j6) = x1 → zwp 118 (20, [some (.inr (some (16, 0))), some (.inl x1), some (.inl x2), some (.inl (x3 + (nI 0))), some (.inl (x4 + nI 1))], [], (S, d)) Q)))))) : zwp 118 (20, [some (.inr (some (16, 0))), some (.inl x1), some (.inl x2), some (.inl x3), some (.inl x4)], [], (S, d)) Q := by
  refine zwp_blk 3 (c' := (26, [some (.inr (some (16, 0))), some (.inl x1), some (.inl x2), some (.inl x3), some (.inl x4)], [.inl (S 1025 0 0), .inl x4], (S, d))) rfl ?_
  refine zwp_br rfl (fun hb => ?_) (fun hb => ?_)
  · show zwp 118 (66, [some (.inr (some (16, 0))), some (.inl x1), some (.inl x2), some (.inl x3), some (.inl x4)], [], (S, d)) Q
    replace h := h.1 (of_decide_eq_true hb)
    refine zwp_blk 1 (c' := (67, [some (.inr (some (16, 0))), some (.inl x1), some (.inl x2), some (.inl x3), some (.inl x4)], [.inl x2], (S, d))) rfl ?_
    by_cases hs0 : x2 = nI 0
    · refine zwp_sw (off := 37) (pc' := 104) (ls := [some (.inr (some (16, 0))), some (.inl x1), some (.inl x2), some (.inl x3), some (.inl x4)]) (r := []) (t := (S, d)) rfl (by rw [hs0]; decide +kernel) rfl ?_
      replace h := h.1 hs0
      refine zwp_blk 3 (c' := (109, [some (.inr (some (16, 0))), some (.inl x1), some (.inl x2), some (.inl x3), some (.inl x4)], [.inl x1, .inr (some (27, 0))], (S, d))) rfl ?_
      obtain ⟨j1, ej1, lj1, h⟩ := h
      refine zwp_ldx (n := 48) (cd := 1728) (i := 0) (pc' := 110) (ls := [some (.inr (some (16, 0))), some (.inl x1), some (.inl x2), some (.inl x3), some (.inl x4)]) (r := []) (t := (S, d)) rfl ej1 lj1 (by decide) ?_
      refine zwp_br rfl (fun hb => ?_) (fun hb => ?_)
      · show zwp 118 (117, [some (.inr (some (16, 0))), some (.inl x1), some (.inl x2), some (.inl x3), some (.inl x4)], [], (S, d)) Q
        replace h := h.1 (of_decide_eq_true hb)
        refine zwp_blk 1 (c' := (118, [some (.inr (some (16, 0))), some (.inl x1), some (.inl x2), some (.inl x3), some (.inl x4)], [.inl (nI 0)], (S, d))) rfl ?_
        exact zwp_end rfl h
      · show zwp 118 (113, [some (.inr (some (16, 0))), some (.inl x1), some (.inl x2), some (.inl x3), some (.inl x4)], [], (S, d)) Q
        replace h := h.2 (of_decide_eq_false hb)
        refine zwp_blk 2 (c' := (118, [some (.inr (some (16, 0))), some (.inl x1), some (.inl x2), some (.inl x3), some (.inl x4)], [.inl (nI 1)], (S, d))) rfl ?_
        exact zwp_end rfl h
    by_cases hs1 : x2 = nI 1
    · refine zwp_sw (off := 52) (pc' := 119) (ls := [some (.inr (some (16, 0))), some (.inl x1), some (.inl x2), some (.inl x3), some (.inl x4)]) (r := []) (t := (S, d)) rfl (by rw [hs1]; decide +kernel) rfl ?_
      replace h := h.2.1 hs1
      refine zwp_blk 3 (c' := (124, [some (.inr (some (16, 0))), some (.inl x1), some (.inl x2), some (.inl x3), some (.inl x4)], [.inl x1, .inr (some (28, 0))], (S, d))) rfl ?_
      obtain ⟨j2, ej2, lj2, h⟩ := h
      refine zwp_ldx (n := 48) (cd := 1792) (i := 0) (pc' := 125) (ls := [some (.inr (some (16, 0))), some (.inl x1), some (.inl x2), some (.inl x3), some (.inl x4)]) (r := []) (t := (S, d)) rfl ej2 lj2 (by decide) ?_
      exact zwp_end rfl h
    by_cases hs2 : x2 = nI 2
    · refine zwp_sw (off := 59) (pc' := 126) (ls := [some (.inr (some (16, 0))), some (.inl x1), some (.inl x2), some (.inl x3), some (.inl x4)]) (r := []) (t := (S, d)) rfl (by rw [hs2]; decide +kernel) rfl ?_
      replace h := h.2.2.1 hs2
      refine zwp_blk 3 (c' := (131, [some (.inr (some (16, 0))), some (.inl x1), some (.inl x2), some (.inl x3), some (.inl x4)], [.inl x1, .inr (some (30, 0))], (S, d))) rfl ?_
      obtain ⟨j3, ej3, lj3, h⟩ := h
      refine zwp_ldx (n := 48) (cd := 1920) (i := 0) (pc' := 132) (ls := [some (.inr (some (16, 0))), some (.inl x1), some (.inl x2), some (.inl x3), some (.inl x4)]) (r := []) (t := (S, d)) rfl ej3 lj3 (by decide) ?_
      exact zwp_end rfl h
    by_cases hs3 : x2 = nI 3
    · refine zwp_sw (off := 66) (pc' := 133) (ls := [some (.inr (some (16, 0))), some (.inl x1), some (.inl x2), some (.inl x3), some (.inl x4)]) (r := []) (t := (S, d)) rfl (by rw [hs3]; decide +kernel) rfl ?_
      replace h := h.2.2.2.1 hs3
      refine zwp_blk 3 (c' := (138, [some (.inr (some (16, 0))), some (.inl x1), some (.inl x2), some (.inl x3), some (.inl x4)], [.inl x1, .inr (some (29, 0))], (S, d))) rfl ?_
      obtain ⟨j4, ej4, lj4, h⟩ := h
      refine zwp_ldx (n := 48) (cd := 1856) (i := 0) (pc' := 139) (ls := [some (.inr (some (16, 0))), some (.inl x1), some (.inl x2), some (.inl x3), some (.inl x4)]) (r := []) (t := (S, d)) rfl ej4 lj4 (by decide) ?_
      refine zwp_br rfl (fun hb => ?_) (fun hb => ?_)
      · show zwp 118 (146, [some (.inr (some (16, 0))), some (.inl x1), some (.inl x2), some (.inl x3), some (.inl x4)], [], (S, d)) Q
        replace h := h.1 (of_decide_eq_true hb)
        refine zwp_blk 1 (c' := (147, [some (.inr (some (16, 0))), some (.inl x1), some (.inl x2), some (.inl x3), some (.inl x4)], [.inl (nI 0)], (S, d))) rfl ?_
        exact zwp_end rfl h
      · show zwp 118 (142, [some (.inr (some (16, 0))), some (.inl x1), some (.inl x2), some (.inl x3), some (.inl x4)], [], (S, d)) Q
        replace h := h.2 (of_decide_eq_false hb)
        refine zwp_blk 2 (c' := (147, [some (.inr (some (16, 0))), some (.inl x1), some (.inl x2), some (.inl x3), some (.inl x4)], [.inl (nI 1)], (S, d))) rfl ?_
        exact zwp_end rfl h
    by_cases hs4 : x2 = nI 4
    · refine zwp_sw (off := 81) (pc' := 148) (ls := [some (.inr (some (16, 0))), some (.inl x1), some (.inl x2), some (.inl x3), some (.inl x4)]) (r := []) (t := (S, d)) rfl (by rw [hs4]; decide +kernel) rfl ?_
      replace h := h.2.2.2.2.1 hs4
      refine zwp_blk 2 (c' := (150, [some (.inr (some (16, 0))), some (.inl x1), some (.inl x2), some (.inl x3), some (.inl x4)], [.inl x1, .inr (some (16, 0))], (S, d))) rfl ?_
      exact zwp_call rfl h
    by_cases hs5 : x2 = nI 5
    · refine zwp_sw (off := 87) (pc' := 154) (ls := [some (.inr (some (16, 0))), some (.inl x1), some (.inl x2), some (.inl x3), some (.inl x4)]) (r := []) (t := (S, d)) rfl (by rw [hs5]; decide +kernel) rfl ?_
      replace h := h.2.2.2.2.2.1 hs5
      refine zwp_blk 1 (c' := (155, [some (.inr (some (16, 0))), some (.inl x1), some (.inl x2), some (.inl x3), some (.inl x4)], [.inl x3], (S, d))) rfl ?_
      exact zwp_end rfl h
    refine zwp_sw (off := 89) (pc' := 156) (ls := [some (.inr (some (16, 0))), some (.inl x1), some (.inl x2), some (.inl x3), some (.inl x4)]) (r := []) (t := (S, d)) rfl (zsw_d (a := 0) (b := 5) rfl rfl (by intro k h1 h2; rcases (show k = 0 ∨ k = 1 ∨ k = 2 ∨ k = 3 ∨ k = 4 ∨ k = 5 by omega) with rfl | rfl | rfl | rfl | rfl | rfl <;> assumption)) rfl ?_
    replace h := h.2.2.2.2.2.2 hs0 hs1 hs2 hs3 hs4 hs5
    refine zwp_blk 1 (c' := (157, [some (.inr (some (16, 0))), some (.inl x1), some (.inl x2), some (.inl x3), some (.inl x4)], [.inl (zint (-1))], (S, d))) rfl ?_
    exact zwp_end rfl h
  · show zwp 118 (29, [some (.inr (some (16, 0))), some (.inl x1), some (.inl x2), some (.inl x3), some (.inl x4)], [], (S, d)) Q
    replace h := h.2 (of_decide_eq_false hb)
    refine zwp_blk 4 (c' := (36, [some (.inr (some (16, 0))), some (.inl x1), some (.inl x2), some (.inl x3), some (.inl x4)], [.inl x4, .inr (some (17, 0)), .inl x3], (S, d))) rfl ?_
    obtain ⟨j5, ej5, lj5, h⟩ := h
    refine zwp_ldx (n := 1300) (cd := 1088) (i := 0) (pc' := 37) (ls := [some (.inr (some (16, 0))), some (.inl x1), some (.inl x2), some (.inl x3), some (.inl x4)]) (r := [.inl x3]) (t := (S, d)) rfl ej5 lj5 (by decide) ?_
    refine zwp_blk 1 (c' := (39, [some (.inr (some (16, 0))), some (.inl x1), some (.inl x2), some (.inl x3), some (.inl x4)], [.inl (nI 6), .inl (S 1088 0 j5), .inl x3], (S, d))) rfl ?_
    refine zwp_br rfl (fun hb => ?_) (fun hb => ?_)
    · show zwp 118 (57, [some (.inr (some (16, 0))), some (.inl x1), some (.inl x2), some (.inl x3), some (.inl x4)], [.inl x3], (S, d)) Q
      replace h := h.1 (of_decide_eq_true hb)
      refine zwp_blk 5 (c' := (20, [some (.inr (some (16, 0))), some (.inl x1), some (.inl x2), some (.inl (x3 + (nI 0))), some (.inl (x4 + nI 1))], [], (S, d))) rfl ?_
      exact h
    · show zwp 118 (42, [some (.inr (some (16, 0))), some (.inl x1), some (.inl x2), some (.inl x3), some (.inl x4)], [.inl x3], (S, d)) Q
      replace h := h.2 (of_decide_eq_false hb)
      refine zwp_blk 3 (c' := (48, [some (.inr (some (16, 0))), some (.inl x1), some (.inl x2), some (.inl x3), some (.inl x4)], [.inl x4, .inr (some (18, 0)), .inl x3], (S, d))) rfl ?_
      obtain ⟨j6, ej6, lj6, h⟩ := h
      refine zwp_ldx (n := 1300) (cd := 1152) (i := 0) (pc' := 49) (ls := [some (.inr (some (16, 0))), some (.inl x1), some (.inl x2), some (.inl x3), some (.inl x4)]) (r := [.inl x3]) (t := (S, d)) rfl ej6 lj6 (by decide) ?_
      refine zwp_blk 1 (c' := (50, [some (.inr (some (16, 0))), some (.inl x1), some (.inl x2), some (.inl x3), some (.inl x4)], [.inl x1, .inl (S 1152 0 j6), .inl x3], (S, d))) rfl ?_
      refine zwp_br rfl (fun hb => ?_) (fun hb => ?_)
      · show zwp 118 (57, [some (.inr (some (16, 0))), some (.inl x1), some (.inl x2), some (.inl x3), some (.inl x4)], [.inl x3], (S, d)) Q
        replace h := h.2 (zne_t hb)
        refine zwp_blk 5 (c' := (20, [some (.inr (some (16, 0))), some (.inl x1), some (.inl x2), some (.inl (x3 + (nI 0))), some (.inl (x4 + nI 1))], [], (S, d))) rfl ?_
        exact h
      · show zwp 118 (53, [some (.inr (some (16, 0))), some (.inl x1), some (.inl x2), some (.inl x3), some (.inl x4)], [.inl x3], (S, d)) Q
        replace h := h.1 (zne_f hb)
        refine zwp_blk 6 (c' := (20, [some (.inr (some (16, 0))), some (.inl x1), some (.inl x2), some (.inl (x3 + (nI 1))), some (.inl (x4 + nI 1))], [], (S, d))) rfl ?_
        exact h
theorem w118_153 {S : zS} {d : Nat} {Q : zO → zT → Prop} {x1 : Int32} {x2 : Int32} {x3 : Int32} {x4 : Int32} {y0 : Int32} (h : Q (.inl (some (.inl y0))) (S, d)) : zwp 118 (153, [some (.inr (some (16, 0))), some (.inl x1), some (.inl x2), some (.inl x3), some (.inl x4)], [.inl y0], (S, d)) Q := by
  exact zwp_end rfl h
-- 119 PageKeeperModel.show
theorem w119_0 {S : zS} {d : Nat} {Q : zO → zT → Prop} {x1 : Int32} {x2 : Int32} (h : zwp 112 (0, zent 112 [.inr (some (16, 0)), .inl x1], [], (zu S 1024 0 0 (nI 0), d)) (zaf 119 10 [some (.inr (some (16, 0))), some (.inl x1), some (.inl x2), none, none] [] Q)) : zwp 119 (0, [some (.inr (some (16, 0))), some (.inl x1), some (.inl x2), none, none], [], (S, d)) Q := by
  refine zwp_blk 5 (c' := (7, [some (.inr (some (16, 0))), some (.inl x1), some (.inl x2), none, none], [.inl x1, .inr (some (16, 0))], (zu S 1024 0 0 (nI 0), d))) rfl ?_
  exact zwp_call rfl h
theorem w119_10 {S : zS} {d : Nat} {Q : zO → zT → Prop} {x1 : Int32} {x2 : Int32} {y0 : Int32} (h : (y0 = 0 → Q (.inl (some (.inl (zint (-1))))) (S, d)) ∧ (¬ y0 = 0 → zwp 77 (0, zent 77 [.inl x2, .inl (nI 0), .inl (nI 9)], [], (S, d)) (zaf 119 20 [some (.inr (some (16, 0))), some (.inl x1), some (.inl x2), none, none] [] Q))) : zwp 119 (10, [some (.inr (some (16, 0))), some (.inl x1), some (.inl x2), none, none], [.inl y0], (S, d)) Q := by
  refine zwp_br rfl (fun hb => ?_) (fun hb => ?_)
  · show zwp 119 (23, [some (.inr (some (16, 0))), some (.inl x1), some (.inl x2), none, none], [], (S, d)) Q
    replace h := h.1 (of_decide_eq_true hb)
    refine zwp_blk 1 (c' := (24, [some (.inr (some (16, 0))), some (.inl x1), some (.inl x2), none, none], [.inl (zint (-1))], (S, d))) rfl ?_
    exact zwp_end rfl h
  · show zwp 119 (13, [some (.inr (some (16, 0))), some (.inl x1), some (.inl x2), none, none], [], (S, d)) Q
    replace h := h.2 (of_decide_eq_false hb)
    refine zwp_blk 3 (c' := (17, [some (.inr (some (16, 0))), some (.inl x1), some (.inl x2), none, none], [.inl (nI 9), .inl (nI 0), .inl x2], (S, d))) rfl ?_
    exact zwp_call rfl h
theorem w119_20 {S : zS} {d : Nat} {Q : zO → zT → Prop} {x1 : Int32} {x2 : Int32} {y0 : Int32} (h : (y0 = 0 → Q (.inl (some (.inl (zint (-1))))) (S, d)) ∧ (¬ y0 = 0 → zwp 79 (0, zent 79 [.inr (some (16, 0)), .inl x1], [], (S, d)) (zaf 119 30 [some (.inr (some (16, 0))), some (.inl x1), some (.inl x2), none, none] [] Q))) : zwp 119 (20, [some (.inr (some (16, 0))), some (.inl x1), some (.inl x2), none, none], [.inl y0], (S, d)) Q := by
  refine zwp_br rfl (fun hb => ?_) (fun hb => ?_)
  · show zwp 119 (25, [some (.inr (some (16, 0))), some (.inl x1), some (.inl x2), none, none], [], (S, d)) Q
    replace h := h.2 (zne_t hb)
    refine zwp_blk 2 (c' := (27, [some (.inr (some (16, 0))), some (.inl x1), some (.inl x2), none, none], [.inl x1, .inr (some (16, 0))], (S, d))) rfl ?_
    exact zwp_call rfl h
  · show zwp 119 (23, [some (.inr (some (16, 0))), some (.inl x1), some (.inl x2), none, none], [], (S, d)) Q
    replace h := h.1 (zne_f hb)
    refine zwp_blk 1 (c' := (24, [some (.inr (some (16, 0))), some (.inl x1), some (.inl x2), none, none], [.inl (zint (-1))], (S, d))) rfl ?_
    exact zwp_end rfl h
theorem w119_30 {S : zS} {d : Nat} {Q : zO → zT → Prop} {x1 : Int32} {x2 : Int32} (h : ((nI 2) ≤ x2 → ((nI 6) ≤ x2 → ((S 1048 0 0) = 0 → ((S 1049 0 0) ≤ ((x2 - (nI 2)) - (x2 - (nI 2)) / (nI 4) * (nI 4)) → zwp 119 (117, [some (.inr (some (16, 0))), some (.inl x1), some (.inl x2), some (.inl ((x2 - (nI 2)) - (x2 - (nI 2)) / (nI 4) * (nI 4))), none], [.inl (nI 0)], (S, d)) Q) ∧ (¬ (S 1049 0 0) ≤ ((x2 - (nI 2)) - (x2 - (nI 2)) / (nI 4) * (nI 4)) → zwp 119 (117, [some (.inr (some (16, 0))), some (.inl x1), some (.inl x2), some (.inl ((x2 - (nI 2)) - (x2 - (nI 2)) / (nI 4) * (nI 4))), none], [.inl (nI 1)], (S, d)) Q)) ∧ (¬ (S 1048 0 0) = 0 → (((S 1049 0 0) - (nI 1)) ≤ ((x2 - (nI 2)) - (x2 - (nI 2)) / (nI 4) * (nI 4)) → zwp 119 (117, [some (.inr (some (16, 0))), some (.inl x1), some (.inl x2), some (.inl ((x2 - (nI 2)) - (x2 - (nI 2)) / (nI 4) * (nI 4))), none], [.inl (nI 0)], (S, d)) Q) ∧ (¬ ((S 1049 0 0) - (nI 1)) ≤ ((x2 - (nI 2)) - (x2 - (nI 2)) / (nI 4) * (nI 4)) → zwp 119 (117, [some (.inr (some (16, 0))), some (.inl x1), some (.inl x2), some (.inl ((x2 - (nI 2)) - (x2 - (nI 2)) / (nI 4) * (nI 4))), none], [.inl (nI 1)], (S, d)) Q))) ∧ (¬ (nI 6) ≤ x2 → ((S 1049 0 0) ≤ ((x2 - (nI 2)) - (x2 - (nI 2)) / (nI 4) * (nI 4)) → zwp 119 (117, [some (.inr (some (16, 0))), some (.inl x1), some (.inl x2), some (.inl ((x2 - (nI 2)) - (x2 - (nI 2)) / (nI 4) * (nI 4))), none], [.inl (nI 0)], (S, d)) Q) ∧ (¬ (S 1049 0 0) ≤ ((x2 - (nI 2)) - (x2 - (nI 2)) / (nI 4) * (nI 4)) → zwp 119 (117, [some (.inr (some (16, 0))), some (.inl x1), some (.inl x2), some (.inl ((x2 - (nI 2)) - (x2 - (nI 2)) / (nI 4) * (nI 4))), none], [.inl (nI 1)], (S, d)) Q))) ∧ (¬ (nI 2) ≤ x2 → (x2 = (nI 1) → Q (.inl (some (.inl (S 1049 0 0)))) (S, d)) ∧ (¬ x2 = (nI 1) → ((S 1048 0 0) = 0 → Q (.inl (some (.inl (nI 0)))) (S, d)) ∧ (¬ (S 1048 0 0) = 0 → Q (.inl (some (.inl (nI 1)))) (S, d))))) : zwp 119 (30, [some (.inr (some (16, 0))), some (.inl x1), some (.inl x2), none, none], [], (S, d)) Q := by
  refine zwp_blk 2 (c' := (32, [some (.inr (some (16, 0))), some (.inl x1), some (.inl x2), none, none], [.inl (nI 2), .inl x2], (S, d))) rfl ?_
  refine zwp_br rfl (fun hb => ?_) (fun hb => ?_)
  · show zwp 119 (60, [some (.inr (some (16, 0))), some (.inl x1), some (.inl x2), none, none], [], (S, d)) Q
    replace h := h.1 (of_decide_eq_true hb)
    refine zwp_blk 4 (c' := (64, [some (.inr (some (16, 0))), some (.inl x1), some (.inl x2), none, none], [.inl (nI 4), .inl (x2 - (nI 2))], (S, d))) rfl ?_
    refine zwp_grd (c' := (65, [some (.inr (some (16, 0))), some (.inl x1), some (.inl x2), none, none], [.inl ((x2 - (nI 2)) - (x2 - (nI 2)) / (nI 4) * (nI 4))], (S, d))) rfl (by decide) ?_
    refine zwp_blk 3 (c' := (69, [some (.inr (some (16, 0))), some (.inl x1), some (.inl x2), some (.inl ((x2 - (nI 2)) - (x2 - (nI 2)) / (nI 4) * (nI 4))), none], [.inl (nI 6), .inl x2], (S, d))) rfl ?_
    refine zwp_br rfl (fun hb => ?_) (fun hb => ?_)
    · show zwp 119 (88, [some (.inr (some (16, 0))), some (.inl x1), some (.inl x2), some (.inl ((x2 - (nI 2)) - (x2 - (nI 2)) / (nI 4) * (nI 4))), none], [], (S, d)) Q
      replace h := h.1 (of_decide_eq_true hb)
      refine zwp_blk 3 (c' := (93, [some (.inr (some (16, 0))), some (.inl x1), some (.inl x2), some (.inl ((x2 - (nI 2)) - (x2 - (nI 2)) / (nI 4) * (nI 4))), none], [.inl (S 1048 0 0), .inl ((x2 - (nI 2)) - (x2 - (nI 2)) / (nI 4) * (nI 4))], (S, d))) rfl ?_
      refine zwp_br rfl (fun hb => ?_) (fun hb => ?_)
      · show zwp 119 (105, [some (.inr (some (16, 0))), some (.inl x1), some (.inl x2), some (.inl ((x2 - (nI 2)) - (x2 - (nI 2)) / (nI 4) * (nI 4))), none], [.inl ((x2 - (nI 2)) - (x2 - (nI 2)) / (nI 4) * (nI 4))], (S, d)) Q
        replace h := h.1 (of_decide_eq_true hb)
        refine zwp_blk 2 (c' := (109, [some (.inr (some (16, 0))), some (.inl x1), some (.inl x2), some (.inl ((x2 - (nI 2)) - (x2 - (nI 2)) / (nI 4) * (nI 4))), none], [.inl (S 1049 0 0), .inl ((x2 - (nI 2)) - (x2 - (nI 2)) / (nI 4) * (nI 4))], (S, d))) rfl ?_
        refine zwp_br rfl (fun hb => ?_) (fun hb => ?_)
        · show zwp 119 (116, [some (.inr (some (16, 0))), some (.inl x1), some (.inl x2), some (.inl ((x2 - (nI 2)) - (x2 - (nI 2)) / (nI 4) * (nI 4))), none], [], (S, d)) Q
          replace h := h.1 (of_decide_eq_true hb)
          refine zwp_blk 1 (c' := (117, [some (.inr (some (16, 0))), some (.inl x1), some (.inl x2), some (.inl ((x2 - (nI 2)) - (x2 - (nI 2)) / (nI 4) * (nI 4))), none], [.inl (nI 0)], (S, d))) rfl ?_
          exact h
        · show zwp 119 (112, [some (.inr (some (16, 0))), some (.inl x1), some (.inl x2), some (.inl ((x2 - (nI 2)) - (x2 - (nI 2)) / (nI 4) * (nI 4))), none], [], (S, d)) Q
          replace h := h.2 (of_decide_eq_false hb)
          refine zwp_blk 2 (c' := (117, [some (.inr (some (16, 0))), some (.inl x1), some (.inl x2), some (.inl ((x2 - (nI 2)) - (x2 - (nI 2)) / (nI 4) * (nI 4))), none], [.inl (nI 1)], (S, d))) rfl ?_
          exact h
      · show zwp 119 (96, [some (.inr (some (16, 0))), some (.inl x1), some (.inl x2), some (.inl ((x2 - (nI 2)) - (x2 - (nI 2)) / (nI 4) * (nI 4))), none], [.inl ((x2 - (nI 2)) - (x2 - (nI 2)) / (nI 4) * (nI 4))], (S, d)) Q
        replace h := h.2 (of_decide_eq_false hb)
        refine zwp_blk 5 (c' := (109, [some (.inr (some (16, 0))), some (.inl x1), some (.inl x2), some (.inl ((x2 - (nI 2)) - (x2 - (nI 2)) / (nI 4) * (nI 4))), none], [.inl ((S 1049 0 0) - (nI 1)), .inl ((x2 - (nI 2)) - (x2 - (nI 2)) / (nI 4) * (nI 4))], (S, d))) rfl ?_
        refine zwp_br rfl (fun hb => ?_) (fun hb => ?_)
        · show zwp 119 (116, [some (.inr (some (16, 0))), some (.inl x1), some (.inl x2), some (.inl ((x2 - (nI 2)) - (x2 - (nI 2)) / (nI 4) * (nI 4))), none], [], (S, d)) Q
          replace h := h.1 (of_decide_eq_true hb)
          refine zwp_blk 1 (c' := (117, [some (.inr (some (16, 0))), some (.inl x1), some (.inl x2), some (.inl ((x2 - (nI 2)) - (x2 - (nI 2)) / (nI 4) * (nI 4))), none], [.inl (nI 0)], (S, d))) rfl ?_
          exact h
        · show zwp 119 (112, [some (.inr (some (16, 0))), some (.inl x1), some (.inl x2), some (.inl ((x2 - (nI 2)) - (x2 - (nI 2)) / (nI 4) * (nI 4))), none], [], (S, d)) Q
          replace h := h.2 (of_decide_eq_false hb)
          refine zwp_blk 2 (c' := (117, [some (.inr (some (16, 0))), some (.inl x1), some (.inl x2), some (.inl ((x2 - (nI 2)) - (x2 - (nI 2)) / (nI 4) * (nI 4))), none], [.inl (nI 1)], (S, d))) rfl ?_
          exact h
    · show zwp 119 (72, [some (.inr (some (16, 0))), some (.inl x1), some (.inl x2), some (.inl ((x2 - (nI 2)) - (x2 - (nI 2)) / (nI 4) * (nI 4))), none], [], (S, d)) Q
      replace h := h.2 (of_decide_eq_false hb)
      refine zwp_blk 3 (c' := (77, [some (.inr (some (16, 0))), some (.inl x1), some (.inl x2), some (.inl ((x2 - (nI 2)) - (x2 - (nI 2)) / (nI 4) * (nI 4))), none], [.inl (S 1049 0 0), .inl ((x2 - (nI 2)) - (x2 - (nI 2)) / (nI 4) * (nI 4))], (S, d))) rfl ?_
      refine zwp_br rfl (fun hb => ?_) (fun hb => ?_)
      · show zwp 119 (84, [some (.inr (some (16, 0))), some (.inl x1), some (.inl x2), some (.inl ((x2 - (nI 2)) - (x2 - (nI 2)) / (nI 4) * (nI 4))), none], [], (S, d)) Q
        replace h := h.1 (of_decide_eq_true hb)
        refine zwp_blk 2 (c' := (117, [some (.inr (some (16, 0))), some (.inl x1), some (.inl x2), some (.inl ((x2 - (nI 2)) - (x2 - (nI 2)) / (nI 4) * (nI 4))), none], [.inl (nI 0)], (S, d))) rfl ?_
        exact h
      · show zwp 119 (80, [some (.inr (some (16, 0))), some (.inl x1), some (.inl x2), some (.inl ((x2 - (nI 2)) - (x2 - (nI 2)) / (nI 4) * (nI 4))), none], [], (S, d)) Q
        replace h := h.2 (of_decide_eq_false hb)
        refine zwp_blk 2 (c' := (117, [some (.inr (some (16, 0))), some (.inl x1), some (.inl x2), some (.inl ((x2 - (nI 2)) - (x2 - (nI 2)) / (nI 4) * (nI 4))), none], [.inl (nI 1)], (S, d))) rfl ?_
        exact h
  · show zwp 119 (35, [some (.inr (some (16, 0))), some (.inl x1), some (.inl x2), none, none], [], (S, d)) Q
    replace h := h.2 (of_decide_eq_false hb)
    refine zwp_blk 2 (c' := (37, [some (.inr (some (16, 0))), some (.inl x1), some (.inl x2), none, none], [.inl (nI 1), .inl x2], (S, d))) rfl ?_
    refine zwp_br rfl (fun hb => ?_) (fun hb => ?_)
    · show zwp 119 (47, [some (.inr (some (16, 0))), some (.inl x1), some (.inl x2), none, none], [], (S, d)) Q
      replace h := h.2 (zne_t hb)
      refine zwp_blk 2 (c' := (51, [some (.inr (some (16, 0))), some (.inl x1), some (.inl x2), none, none], [.inl (S 1048 0 0)], (S, d))) rfl ?_
      refine zwp_br rfl (fun hb => ?_) (fun hb => ?_)
      · show zwp 119 (58, [some (.inr (some (16, 0))), some (.inl x1), some (.inl x2), none, none], [], (S, d)) Q
        replace h := h.1 (of_decide_eq_true hb)
        refine zwp_blk 1 (c' := (59, [some (.inr (some (16, 0))), some (.inl x1), some (.inl x2), none, none], [.inl (nI 0)], (S, d))) rfl ?_
        exact zwp_end rfl h
      · show zwp 119 (54, [some (.inr (some (16, 0))), some (.inl x1), some (.inl x2), none, none], [], (S, d)) Q
        replace h := h.2 (of_decide_eq_false hb)
        refine zwp_blk 2 (c' := (59, [some (.inr (some (16, 0))), some (.inl x1), some (.inl x2), none, none], [.inl (nI 1)], (S, d))) rfl ?_
        exact zwp_end rfl h
    · show zwp 119 (40, [some (.inr (some (16, 0))), some (.inl x1), some (.inl x2), none, none], [], (S, d)) Q
      replace h := h.1 (zne_f hb)
      refine zwp_blk 3 (c' := (59, [some (.inr (some (16, 0))), some (.inl x1), some (.inl x2), none, none], [.inl (S 1049 0 0)], (S, d))) rfl ?_
      exact zwp_end rfl h
theorem w119_117 {S : zS} {d : Nat} {Q : zO → zT → Prop} {x1 : Int32} {x2 : Int32} {x3 : Int32} {y0 : Int32} (h : (y0 = 0 → Q (.inl (some (.inl (zint (-1))))) (S, d)) ∧ (¬ y0 = 0 → ((nI 6) ≤ x2 → ∃ j1 : Nat, x3 = nI j1 ∧ j1 < 6 ∧ (Q (.inl (some (.inl (S 2048 0 j1)))) (S, d))) ∧ (¬ (nI 6) ≤ x2 → ∃ j2 : Nat, x3 = nI j2 ∧ j2 < 6 ∧ (Q (.inl (some (.inl (S 1984 0 j2)))) (S, d))))) : zwp 119 (117, [some (.inr (some (16, 0))), some (.inl x1), some (.inl x2), some (.inl x3), none], [.inl y0], (S, d)) Q := by
  refine zwp_blk 2 (c' := (121, [some (.inr (some (16, 0))), some (.inl x1), some (.inl x2), some (.inl x3), some (.inl y0)], [.inl y0], (S, d))) rfl ?_
  refine zwp_br rfl (fun hb => ?_) (fun hb => ?_)
  · show zwp 119 (128, [some (.inr (some (16, 0))), some (.inl x1), some (.inl x2), some (.inl x3), some (.inl y0)], [], (S, d)) Q
    replace h := h.2 (zne_t hb)
    refine zwp_blk 2 (c' := (131, [some (.inr (some (16, 0))), some (.inl x1), some (.inl x2), some (.inl x3), some (.inl y0)], [.inl (nI 6), .inl x2], (S, d))) rfl ?_
    refine zwp_br rfl (fun hb => ?_) (fun hb => ?_)
    · show zwp 119 (143, [some (.inr (some (16, 0))), some (.inl x1), some (.inl x2), some (.inl x3), some (.inl y0)], [], (S, d)) Q
      replace h := h.1 (of_decide_eq_true hb)
      refine zwp_blk 3 (c' := (148, [some (.inr (some (16, 0))), some (.inl x1), some (.inl x2), some (.inl x3), some (.inl y0)], [.inl x3, .inr (some (32, 0))], (S, d))) rfl ?_
      obtain ⟨j1, ej1, lj1, h⟩ := h
      refine zwp_ldx (n := 6) (cd := 2048) (i := 0) (pc' := 149) (ls := [some (.inr (some (16, 0))), some (.inl x1), some (.inl x2), some (.inl x3), some (.inl y0)]) (r := []) (t := (S, d)) rfl ej1 lj1 (by decide) ?_
      exact zwp_end rfl h
    · show zwp 119 (134, [some (.inr (some (16, 0))), some (.inl x1), some (.inl x2), some (.inl x3), some (.inl y0)], [], (S, d)) Q
      replace h := h.2 (of_decide_eq_false hb)
      refine zwp_blk 3 (c' := (139, [some (.inr (some (16, 0))), some (.inl x1), some (.inl x2), some (.inl x3), some (.inl y0)], [.inl x3, .inr (some (31, 0))], (S, d))) rfl ?_
      obtain ⟨j2, ej2, lj2, h⟩ := h
      refine zwp_ldx (n := 6) (cd := 1984) (i := 0) (pc' := 140) (ls := [some (.inr (some (16, 0))), some (.inl x1), some (.inl x2), some (.inl x3), some (.inl y0)]) (r := []) (t := (S, d)) rfl ej2 lj2 (by decide) ?_
      refine zwp_blk 1 (c' := (149, [some (.inr (some (16, 0))), some (.inl x1), some (.inl x2), some (.inl x3), some (.inl y0)], [.inl (S 1984 0 j2)], (S, d))) rfl ?_
      exact zwp_end rfl h
  · show zwp 119 (124, [some (.inr (some (16, 0))), some (.inl x1), some (.inl x2), some (.inl x3), some (.inl y0)], [], (S, d)) Q
    replace h := h.1 (zne_f hb)
    refine zwp_blk 2 (c' := (149, [some (.inr (some (16, 0))), some (.inl x1), some (.inl x2), some (.inl x3), some (.inl y0)], [.inl (zint (-1))], (S, d))) rfl ?_
    exact zwp_end rfl h
-- 120 PageKeeperModel.count
theorem w120_0 {S : zS} {d : Nat} {Q : zO → zT → Prop} {x1 : Int32} (h : (x1 = nI 0 → Q (.inl (some (.inl (S 1038 0 0)))) (zu S 1024 0 0 (nI 0), d)) ∧ (x1 = nI 1 → Q (.inl (some (.inl (S 1025 0 0)))) (zu S 1024 0 0 (nI 0), d)) ∧ (x1 = nI 2 → Q (.inl (some (.inl (S 1026 0 0)))) (zu S 1024 0 0 (nI 0), d)) ∧ (x1 = nI 3 → Q (.inl (some (.inl (S 1044 0 0)))) (zu S 1024 0 0 (nI 0), d)) ∧ (x1 = nI 4 → Q (.inl (some (.inl (S 1045 0 0)))) (zu S 1024 0 0 (nI 0), d)) ∧ (x1 = nI 5 → Q (.inl (some (.inl (S 1046 0 0)))) (zu S 1024 0 0 (nI 0), d)) ∧ (x1 = nI 6 → Q (.inl (some (.inl (S 1047 0 0)))) (zu S 1024 0 0 (nI 0), d)) ∧ (x1 = nI 7 → zwp 117 (0, zent 117 [.inr (some (16, 0))], [], (zu S 1024 0 0 (nI 0), d)) (zaf 120 95 [some (.inr (some (16, 0))), some (.inl x1)] [] Q)) ∧ (x1 = nI 8 → Q (.inl (some (.inl (S 1053 0 0)))) (zu S 1024 0 0 (nI 0), d)) ∧ (¬ x1 = nI 0 → ¬ x1 = nI 1 → ¬ x1 = nI 2 → ¬ x1 = nI 3 → ¬ x1 = nI 4 → ¬ x1 = nI 5 → ¬ x1 = nI 6 → ¬ x1 = nI 7 → ¬ x1 = nI 8 → Q (.inl (some (.inl (zint (-1))))) (zu S 1024 0 0 (nI 0), d))) : zwp 120 (0, [some (.inr (some (16, 0))), some (.inl x1)], [], (S, d)) Q := by
  refine zwp_blk 4 (c' := (6, [some (.inr (some (16, 0))), some (.inl x1)], [.inl x1], (zu S 1024 0 0 (nI 0), d))) rfl ?_
  by_cases hs0 : x1 = nI 0
  · refine zwp_sw (off := 50) (pc' := 56) (ls := [some (.inr (some (16, 0))), some (.inl x1)]) (r := []) (t := (zu S 1024 0 0 (nI 0), d)) rfl (by rw [hs0]; decide +kernel) rfl ?_
    replace h := h.1 hs0
    refine zwp_blk 2 (c' := (60, [some (.inr (some (16, 0))), some (.inl x1)], [.inl (S 1038 0 0)], (zu S 1024 0 0 (nI 0), d))) rfl ?_
    exact zwp_end rfl h
  by_cases hs1 : x1 = nI 1
  · refine zwp_sw (off := 55) (pc' := 61) (ls := [some (.inr (some (16, 0))), some (.inl x1)]) (r := []) (t := (zu S 1024 0 0 (nI 0), d)) rfl (by rw [hs1]; decide +kernel) rfl ?_
    replace h := h.2.1 hs1
    refine zwp_blk 2 (c' := (65, [some (.inr (some (16, 0))), some (.inl x1)], [.inl (S 1025 0 0)], (zu S 1024 0 0 (nI 0), d))) rfl ?_
    exact zwp_end rfl h
  by_cases hs2 : x1 = nI 2
  · refine zwp_sw (off := 60) (pc' := 66) (ls := [some (.inr (some (16, 0))), some (.inl x1)]) (r := []) (t := (zu S 1024 0 0 (nI 0), d)) rfl (by rw [hs2]; decide +kernel) rfl ?_
    replace h := h.2.2.1 hs2
    refine zwp_blk 2 (c' := (70, [some (.inr (some (16, 0))), some (.inl x1)], [.inl (S 1026 0 0)], (zu S 1024 0 0 (nI 0), d))) rfl ?_
    exact zwp_end rfl h
  by_cases hs3 : x1 = nI 3
  · refine zwp_sw (off := 65) (pc' := 71) (ls := [some (.inr (some (16, 0))), some (.inl x1)]) (r := []) (t := (zu S 1024 0 0 (nI 0), d)) rfl (by rw [hs3]; decide +kernel) rfl ?_
    replace h := h.2.2.2.1 hs3
    refine zwp_blk 2 (c' := (75, [some (.inr (some (16, 0))), some (.inl x1)], [.inl (S 1044 0 0)], (zu S 1024 0 0 (nI 0), d))) rfl ?_
    exact zwp_end rfl h
  by_cases hs4 : x1 = nI 4
  · refine zwp_sw (off := 70) (pc' := 76) (ls := [some (.inr (some (16, 0))), some (.inl x1)]) (r := []) (t := (zu S 1024 0 0 (nI 0), d)) rfl (by rw [hs4]; decide +kernel) rfl ?_
    replace h := h.2.2.2.2.1 hs4
    refine zwp_blk 2 (c' := (80, [some (.inr (some (16, 0))), some (.inl x1)], [.inl (S 1045 0 0)], (zu S 1024 0 0 (nI 0), d))) rfl ?_
    exact zwp_end rfl h
  by_cases hs5 : x1 = nI 5
  · refine zwp_sw (off := 75) (pc' := 81) (ls := [some (.inr (some (16, 0))), some (.inl x1)]) (r := []) (t := (zu S 1024 0 0 (nI 0), d)) rfl (by rw [hs5]; decide +kernel) rfl ?_
    replace h := h.2.2.2.2.2.1 hs5
    refine zwp_blk 2 (c' := (85, [some (.inr (some (16, 0))), some (.inl x1)], [.inl (S 1046 0 0)], (zu S 1024 0 0 (nI 0), d))) rfl ?_
    exact zwp_end rfl h
  by_cases hs6 : x1 = nI 6
  · refine zwp_sw (off := 80) (pc' := 86) (ls := [some (.inr (some (16, 0))), some (.inl x1)]) (r := []) (t := (zu S 1024 0 0 (nI 0), d)) rfl (by rw [hs6]; decide +kernel) rfl ?_
    replace h := h.2.2.2.2.2.2.1 hs6
    refine zwp_blk 2 (c' := (90, [some (.inr (some (16, 0))), some (.inl x1)], [.inl (S 1047 0 0)], (zu S 1024 0 0 (nI 0), d))) rfl ?_
    exact zwp_end rfl h
  by_cases hs7 : x1 = nI 7
  · refine zwp_sw (off := 85) (pc' := 91) (ls := [some (.inr (some (16, 0))), some (.inl x1)]) (r := []) (t := (zu S 1024 0 0 (nI 0), d)) rfl (by rw [hs7]; decide +kernel) rfl ?_
    replace h := h.2.2.2.2.2.2.2.1 hs7
    refine zwp_blk 1 (c' := (92, [some (.inr (some (16, 0))), some (.inl x1)], [.inr (some (16, 0))], (zu S 1024 0 0 (nI 0), d))) rfl ?_
    exact zwp_call rfl h
  by_cases hs8 : x1 = nI 8
  · refine zwp_sw (off := 90) (pc' := 96) (ls := [some (.inr (some (16, 0))), some (.inl x1)]) (r := []) (t := (zu S 1024 0 0 (nI 0), d)) rfl (by rw [hs8]; decide +kernel) rfl ?_
    replace h := h.2.2.2.2.2.2.2.2.1 hs8
    refine zwp_blk 2 (c' := (100, [some (.inr (some (16, 0))), some (.inl x1)], [.inl (S 1053 0 0)], (zu S 1024 0 0 (nI 0), d))) rfl ?_
    exact zwp_end rfl h
  refine zwp_sw (off := 95) (pc' := 101) (ls := [some (.inr (some (16, 0))), some (.inl x1)]) (r := []) (t := (zu S 1024 0 0 (nI 0), d)) rfl (zsw_d (a := 0) (b := 8) rfl rfl (by intro k h1 h2; rcases (show k = 0 ∨ k = 1 ∨ k = 2 ∨ k = 3 ∨ k = 4 ∨ k = 5 ∨ k = 6 ∨ k = 7 ∨ k = 8 by omega) with rfl | rfl | rfl | rfl | rfl | rfl | rfl | rfl | rfl <;> assumption)) rfl ?_
  replace h := h.2.2.2.2.2.2.2.2.2 hs0 hs1 hs2 hs3 hs4 hs5 hs6 hs7 hs8
  refine zwp_blk 1 (c' := (102, [some (.inr (some (16, 0))), some (.inl x1)], [.inl (zint (-1))], (zu S 1024 0 0 (nI 0), d))) rfl ?_
  exact zwp_end rfl h
theorem w120_95 {S : zS} {d : Nat} {Q : zO → zT → Prop} {x1 : Int32} {y0 : Int32} (h : Q (.inl (some (.inl y0))) (S, d)) : zwp 120 (95, [some (.inr (some (16, 0))), some (.inl x1)], [.inl y0], (S, d)) Q := by
  exact zwp_end rfl h
-- 121 PageKeeperModel.record
theorem w121_0 {S : zS} {d : Nat} {Q : zO → zT → Prop} {x1 : Int32} {x2 : Int32} (h : zwp 77 (0, zent 77 [.inl x1, .inl (nI 1), .inl (S 1025 0 0)], [], (zu S 1024 0 0 (nI 0), d)) (zaf 121 14 [some (.inr (some (16, 0))), some (.inl x1), some (.inl x2), none, none, none] [] Q)) : zwp 121 (0, [some (.inr (some (16, 0))), some (.inl x1), some (.inl x2), none, none, none], [], (S, d)) Q := by
  refine zwp_blk 7 (c' := (11, [some (.inr (some (16, 0))), some (.inl x1), some (.inl x2), none, none, none], [.inl (S 1025 0 0), .inl (nI 1), .inl x1], (zu S 1024 0 0 (nI 0), d))) rfl ?_
  exact zwp_call rfl h
theorem w121_14 {S : zS} {d : Nat} {Q : zO → zT → Prop} {x1 : Int32} {x2 : Int32} {y0 : Int32} (h : (y0 = 0 → Q (.inl (some (.inl (zint (-1))))) (S, d)) ∧ (¬ y0 = 0 → zwp 77 (0, zent 77 [.inl x2, .inl (nI 0), .inl (nI 4)], [], (S, d)) (zaf 121 23 [some (.inr (some (16, 0))), some (.inl x1), some (.inl x2), none, none, none] [] Q))) : zwp 121 (14, [some (.inr (some (16, 0))), some (.inl x1), some (.inl x2), none, none, none], [.inl y0], (S, d)) Q := by
  refine zwp_br rfl (fun hb => ?_) (fun hb => ?_)
  · show zwp 121 (26, [some (.inr (some (16, 0))), some (.inl x1), some (.inl x2), none, none, none], [], (S, d)) Q
    replace h := h.1 (of_decide_eq_true hb)
    refine zwp_blk 1 (c' := (27, [some (.inr (some (16, 0))), some (.inl x1), some (.inl x2), none, none, none], [.inl (zint (-1))], (S, d))) rfl ?_
    exact zwp_end rfl h
  · show zwp 121 (17, [some (.inr (some (16, 0))), some (.inl x1), some (.inl x2), none, none, none], [], (S, d)) Q
    replace h := h.2 (of_decide_eq_false hb)
    refine zwp_blk 3 (c' := (20, [some (.inr (some (16, 0))), some (.inl x1), some (.inl x2), none, none, none], [.inl (nI 4), .inl (nI 0), .inl x2], (S, d))) rfl ?_
    exact zwp_call rfl h
theorem w121_23 {S : zS} {d : Nat} {Q : zO → zT → Prop} {x1 : Int32} {x2 : Int32} {y0 : Int32} (h : (y0 = 0 → Q (.inl (some (.inl (zint (-1))))) (S, d)) ∧ (¬ y0 = 0 → ∃ j1 : Nat, x1 = nI j1 ∧ j1 < 1300 ∧ (((S 1088 0 j1) < (nI 6) → zwp 121 (44, [some (.inr (some (16, 0))), some (.inl x1), some (.inl x2), none, none, none], [.inl (nI 0)], (S, d)) Q) ∧ (¬ (S 1088 0 j1) < (nI 6) → zwp 121 (44, [some (.inr (some (16, 0))), some (.inl x1), some (.inl x2), none, none, none], [.inl (nI 1)], (S, d)) Q)))) : zwp 121 (23, [some (.inr (some (16, 0))), some (.inl x1), some (.inl x2), none, none, none], [.inl y0], (S, d)) Q := by
  refine zwp_br rfl (fun hb => ?_) (fun hb => ?_)
  · show zwp 121 (28, [some (.inr (some (16, 0))), some (.inl x1), some (.inl x2), none, none, none], [], (S, d)) Q
    replace h := h.2 (zne_t hb)
    refine zwp_blk 3 (c' := (33, [some (.inr (some (16, 0))), some (.inl x1), some (.inl x2), none, none, none], [.inl x1, .inr (some (17, 0))], (S, d))) rfl ?_
    obtain ⟨j1, ej1, lj1, h⟩ := h
    refine zwp_ldx (n := 1300) (cd := 1088) (i := 0) (pc' := 34) (ls := [some (.inr (some (16, 0))), some (.inl x1), some (.inl x2), none, none, none]) (r := []) (t := (S, d)) rfl ej1 lj1 (by decide) ?_
    refine zwp_blk 1 (c' := (36, [some (.inr (some (16, 0))), some (.inl x1), some (.inl x2), none, none, none], [.inl (nI 6), .inl (S 1088 0 j1)], (S, d))) rfl ?_
    refine zwp_br rfl (fun hb => ?_) (fun hb => ?_)
    · show zwp 121 (43, [some (.inr (some (16, 0))), some (.inl x1), some (.inl x2), none, none, none], [], (S, d)) Q
      replace h := h.1 (of_decide_eq_true hb)
      refine zwp_blk 1 (c' := (44, [some (.inr (some (16, 0))), some (.inl x1), some (.inl x2), none, none, none], [.inl (nI 0)], (S, d))) rfl ?_
      exact h
    · show zwp 121 (39, [some (.inr (some (16, 0))), some (.inl x1), some (.inl x2), none, none, none], [], (S, d)) Q
      replace h := h.2 (of_decide_eq_false hb)
      refine zwp_blk 2 (c' := (44, [some (.inr (some (16, 0))), some (.inl x1), some (.inl x2), none, none, none], [.inl (nI 1)], (S, d))) rfl ?_
      exact h
  · show zwp 121 (26, [some (.inr (some (16, 0))), some (.inl x1), some (.inl x2), none, none, none], [], (S, d)) Q
    replace h := h.1 (zne_f hb)
    refine zwp_blk 1 (c' := (27, [some (.inr (some (16, 0))), some (.inl x1), some (.inl x2), none, none, none], [.inl (zint (-1))], (S, d))) rfl ?_
    exact zwp_end rfl h
theorem w121_44 {S : zS} {d : Nat} {Q : zO → zT → Prop} {x1 : Int32} {x2 : Int32} {y0 : Int32} (h : (x2 = 0 → ∃ j3 : Nat, x1 = nI j3 ∧ j3 < 1300 ∧ (Q (.inl (some (.inl (S 1088 0 j3)))) (S, d))) ∧ (¬ x2 = 0 → (x2 ≤ (nI 2) → (y0 = 0 → zwp 121 (94, [some (.inr (some (16, 0))), some (.inl x1), some (.inl x2), some (.inl y0), some (.inl (nI 0)), some (.inl (nI 1))], [], (S, d)) Q) ∧ (¬ y0 = 0 → Q (.inl (some (.inl (zint (-1))))) (S, d))) ∧ (¬ x2 ≤ (nI 2) → (x2 = (nI 3) → ∃ j2 : Nat, x1 = nI j2 ∧ j2 < 1300 ∧ (Q (.inl (some (.inl (S 1216 0 j2)))) (S, d))) ∧ (¬ x2 = (nI 3) → ∃ j1 : Nat, x1 = nI j1 ∧ j1 < 1300 ∧ (Q (.inl (some (.inl (S 1536 0 j1)))) (S, d)))))) : zwp 121 (44, [some (.inr (some (16, 0))), some (.inl x1), some (.inl x2), none, none, none], [.inl y0], (S, d)) Q := by
  refine zwp_blk 2 (c' := (46, [some (.inr (some (16, 0))), some (.inl x1), some (.inl x2), some (.inl y0), none, none], [.inl x2], (S, d))) rfl ?_
  refine zwp_br rfl (fun hb => ?_) (fun hb => ?_)
  · show zwp 121 (56, [some (.inr (some (16, 0))), some (.inl x1), some (.inl x2), some (.inl y0), none, none], [], (S, d)) Q
    replace h := h.2 (zne_t hb)
    refine zwp_blk 2 (c' := (58, [some (.inr (some (16, 0))), some (.inl x1), some (.inl x2), some (.inl y0), none, none], [.inl (nI 2), .inl x2], (S, d))) rfl ?_
    refine zwp_br rfl (fun hb => ?_) (fun hb => ?_)
    · show zwp 121 (82, [some (.inr (some (16, 0))), some (.inl x1), some (.inl x2), some (.inl y0), none, none], [], (S, d)) Q
      replace h := h.1 (of_decide_eq_true hb)
      refine zwp_blk 1 (c' := (83, [some (.inr (some (16, 0))), some (.inl x1), some (.inl x2), some (.inl y0), none, none], [.inl y0], (S, d))) rfl ?_
      refine zwp_br rfl (fun hb => ?_) (fun hb => ?_)
      · show zwp 121 (88, [some (.inr (some (16, 0))), some (.inl x1), some (.inl x2), some (.inl y0), none, none], [], (S, d)) Q
        replace h := h.1 (of_decide_eq_true hb)
        refine zwp_blk 4 (c' := (94, [some (.inr (some (16, 0))), some (.inl x1), some (.inl x2), some (.inl y0), some (.inl (nI 0)), some (.inl (nI 1))], [], (S, d))) rfl ?_
        exact h
      · show zwp 121 (86, [some (.inr (some (16, 0))), some (.inl x1), some (.inl x2), some (.inl y0), none, none], [], (S, d)) Q
        replace h := h.2 (of_decide_eq_false hb)
        refine zwp_blk 1 (c' := (87, [some (.inr (some (16, 0))), some (.inl x1), some (.inl x2), some (.inl y0), none, none], [.inl (zint (-1))], (S, d))) rfl ?_
        exact zwp_end rfl h
    · show zwp 121 (61, [some (.inr (some (16, 0))), some (.inl x1), some (.inl x2), some (.inl y0), none, none], [], (S, d)) Q
      replace h := h.2 (of_decide_eq_false hb)
      refine zwp_blk 2 (c' := (63, [some (.inr (some (16, 0))), some (.inl x1), some (.inl x2), some (.inl y0), none, none], [.inl (nI 3), .inl x2], (S, d))) rfl ?_
      refine zwp_br rfl (fun hb => ?_) (fun hb => ?_)
      · show zwp 121 (75, [some (.inr (some (16, 0))), some (.inl x1), some (.inl x2), some (.inl y0), none, none], [], (S, d)) Q
        replace h := h.2 (zne_t hb)
        refine zwp_blk 3 (c' := (80, [some (.inr (some (16, 0))), some (.inl x1), some (.inl x2), some (.inl y0), none, none], [.inl x1, .inr (some (24, 0))], (S, d))) rfl ?_
        obtain ⟨j1, ej1, lj1, h⟩ := h
        refine zwp_ldx (n := 1300) (cd := 1536) (i := 0) (pc' := 81) (ls := [some (.inr (some (16, 0))), some (.inl x1), some (.inl x2), some (.inl y0), none, none]) (r := []) (t := (S, d)) rfl ej1 lj1 (by decide) ?_
        exact zwp_end rfl h
      · show zwp 121 (66, [some (.inr (some (16, 0))), some (.inl x1), some (.inl x2), some (.inl y0), none, none], [], (S, d)) Q
        replace h := h.1 (zne_f hb)
        refine zwp_blk 3 (c' := (71, [some (.inr (some (16, 0))), some (.inl x1), some (.inl x2), some (.inl y0), none, none], [.inl x1, .inr (some (19, 0))], (S, d))) rfl ?_
        obtain ⟨j2, ej2, lj2, h⟩ := h
        refine zwp_ldx (n := 1300) (cd := 1216) (i := 0) (pc' := 72) (ls := [some (.inr (some (16, 0))), some (.inl x1), some (.inl x2), some (.inl y0), none, none]) (r := []) (t := (S, d)) rfl ej2 lj2 (by decide) ?_
        refine zwp_blk 1 (c' := (81, [some (.inr (some (16, 0))), some (.inl x1), some (.inl x2), some (.inl y0), none, none], [.inl (S 1216 0 j2)], (S, d))) rfl ?_
        exact zwp_end rfl h
  · show zwp 121 (49, [some (.inr (some (16, 0))), some (.inl x1), some (.inl x2), some (.inl y0), none, none], [], (S, d)) Q
    replace h := h.1 (zne_f hb)
    refine zwp_blk 3 (c' := (54, [some (.inr (some (16, 0))), some (.inl x1), some (.inl x2), some (.inl y0), none, none], [.inl x1, .inr (some (17, 0))], (S, d))) rfl ?_
    obtain ⟨j3, ej3, lj3, h⟩ := h
    refine zwp_ldx (n := 1300) (cd := 1088) (i := 0) (pc' := 55) (ls := [some (.inr (some (16, 0))), some (.inl x1), some (.inl x2), some (.inl y0), none, none]) (r := []) (t := (S, d)) rfl ej3 lj3 (by decide) ?_
    exact zwp_end rfl h
theorem w121_94 {S : zS} {d : Nat} {Q : zO → zT → Prop} {x1 : Int32} {x2 : Int32} {x3 : Int32} {x4 : Int32} {x5 : Int32} (h : (x1 ≤ x5 → (x2 = (nI 1) → ∃ j1 : Nat, x1 = nI j1 ∧ j1 < 1300 ∧ (Q (.inl (some (.inl (S 1152 0 j1)))) (S, d))) ∧ (¬ x2 = (nI 1) → Q (.inl (some (.inl x4))) (S, d))) ∧ (¬ x1 ≤ x5 → ∃ j2 : Nat, x5 = nI j2 ∧ j2 < 1300 ∧ (((nI 6) ≤ (S 1088 0 j2) → zwp 121 (94, [some (.inr (some (16, 0))), some (.inl x1), some (.inl x2), some (.inl x3), some (.inl x4), some (.inl (x5 + nI 1))], [], (S, d)) Q) ∧ (¬ (nI 6) ≤ (S 1088 0 j2) → ∃ j3 : Nat, x5 = nI j3 ∧ j3 < 1300 ∧ (∃ j4 : Nat, x1 = nI j4 ∧ j4 < 1300 ∧ (((S 1152 0 j3) = (S 1152 0 j4) → zwp 121 (94, [some (.inr (some (16, 0))), some (.inl x1), some (.inl x2), some (.inl x3), some (.inl x5), some (.inl (x5 + nI 1))], [], (S, d)) Q) ∧ (¬ (S 1152 0 j3) = (S 1152 0 j4) → zwp 121 (94, [some (.inr (some (16, 0))), some (.inl x1), some (.inl x2), some (.inl x3), some (.inl x4), some (.inl (x5 + nI 1))], [], (S, d)) Q))))))) : zwp 121 (94, [some (.inr (some (16, 0))), some (.inl x1), some (.inl x2), some (.inl x3), some (.inl x4), some (.inl x5)], [], (S, d)) Q := by
  refine zwp_blk 2 (c' := (97, [some (.inr (some (16, 0))), some (.inl x1), some (.inl x2), some (.inl x3), some (.inl x4), some (.inl x5)], [.inl x1, .inl x5], (S, d))) rfl ?_
  refine zwp_br rfl (fun hb => ?_) (fun hb => ?_)
  · show zwp 121 (143, [some (.inr (some (16, 0))), some (.inl x1), some (.inl x2), some (.inl x3), some (.inl x4), some (.inl x5)], [], (S, d)) Q
    replace h := h.1 (of_decide_eq_true hb)
    refine zwp_blk 2 (c' := (145, [some (.inr (some (16, 0))), some (.inl x1), some (.inl x2), some (.inl x3), some (.inl x4), some (.inl x5)], [.inl (nI 1), .inl x2], (S, d))) rfl ?_
    refine zwp_br rfl (fun hb => ?_) (fun hb => ?_)
    · show zwp 121 (157, [some (.inr (some (16, 0))), some (.inl x1), some (.inl x2), some (.inl x3), some (.inl x4), some (.inl x5)], [], (S, d)) Q
      replace h := h.2 (zne_t hb)
      refine zwp_blk 1 (c' := (159, [some (.inr (some (16, 0))), some (.inl x1), some (.inl x2), some (.inl x3), some (.inl x4), some (.inl x5)], [.inl x4], (S, d))) rfl ?_
      exact zwp_end rfl h
    · show zwp 121 (148, [some (.inr (some (16, 0))), some (.inl x1), some (.inl x2), some (.inl x3), some (.inl x4), some (.inl x5)], [], (S, d)) Q
      replace h := h.1 (zne_f hb)
      refine zwp_blk 3 (c' := (153, [some (.inr (some (16, 0))), some (.inl x1), some (.inl x2), some (.inl x3), some (.inl x4), some (.inl x5)], [.inl x1, .inr (some (18, 0))], (S, d))) rfl ?_
      obtain ⟨j1, ej1, lj1, h⟩ := h
      refine zwp_ldx (n := 1300) (cd := 1152) (i := 0) (pc' := 154) (ls := [some (.inr (some (16, 0))), some (.inl x1), some (.inl x2), some (.inl x3), some (.inl x4), some (.inl x5)]) (r := []) (t := (S, d)) rfl ej1 lj1 (by decide) ?_
      refine zwp_blk 1 (c' := (159, [some (.inr (some (16, 0))), some (.inl x1), some (.inl x2), some (.inl x3), some (.inl x4), some (.inl x5)], [.inl (S 1152 0 j1)], (S, d))) rfl ?_
      exact zwp_end rfl h
  · show zwp 121 (100, [some (.inr (some (16, 0))), some (.inl x1), some (.inl x2), some (.inl x3), some (.inl x4), some (.inl x5)], [], (S, d)) Q
    replace h := h.2 (of_decide_eq_false hb)
    refine zwp_blk 3 (c' := (106, [some (.inr (some (16, 0))), some (.inl x1), some (.inl x2), some (.inl x3), some (.inl x4), some (.inl x5)], [.inl x5, .inr (some (17, 0))], (S, d))) rfl ?_
    obtain ⟨j2, ej2, lj2, h⟩ := h
    refine zwp_ldx (n := 1300) (cd := 1088) (i := 0) (pc' := 107) (ls := [some (.inr (some (16, 0))), some (.inl x1), some (.inl x2), some (.inl x3), some (.inl x4), some (.inl x5)]) (r := []) (t := (S, d)) rfl ej2 lj2 (by decide) ?_
    refine zwp_blk 1 (c' := (109, [some (.inr (some (16, 0))), some (.inl x1), some (.inl x2), some (.inl x3), some (.inl x4), some (.inl x5)], [.inl (nI 6), .inl (S 1088 0 j2)], (S, d))) rfl ?_
    refine zwp_br rfl (fun hb => ?_) (fun hb => ?_)
    · show zwp 121 (133, [some (.inr (some (16, 0))), some (.inl x1), some (.inl x2), some (.inl x3), some (.inl x4), some (.inl x5)], [], (S, d)) Q
      replace h := h.1 (of_decide_eq_true hb)
      refine zwp_blk 4 (c' := (94, [some (.inr (some (16, 0))), some (.inl x1), some (.inl x2), some (.inl x3), some (.inl x4), some (.inl (x5 + nI 1))], [], (S, d))) rfl ?_
      exact h
    · show zwp 121 (112, [some (.inr (some (16, 0))), some (.inl x1), some (.inl x2), some (.inl x3), some (.inl x4), some (.inl x5)], [], (S, d)) Q
      replace h := h.2 (of_decide_eq_false hb)
      refine zwp_blk 3 (c' := (118, [some (.inr (some (16, 0))), some (.inl x1), some (.inl x2), some (.inl x3), some (.inl x4), some (.inl x5)], [.inl x5, .inr (some (18, 0))], (S, d))) rfl ?_
      obtain ⟨j3, ej3, lj3, h⟩ := h
      refine zwp_ldx (n := 1300) (cd := 1152) (i := 0) (pc' := 119) (ls := [some (.inr (some (16, 0))), some (.inl x1), some (.inl x2), some (.inl x3), some (.inl x4), some (.inl x5)]) (r := []) (t := (S, d)) rfl ej3 lj3 (by decide) ?_
      refine zwp_blk 3 (c' := (124, [some (.inr (some (16, 0))), some (.inl x1), some (.inl x2), some (.inl x3), some (.inl x4), some (.inl x5)], [.inl x1, .inr (some (18, 0)), .inl (S 1152 0 j3)], (S, d))) rfl ?_
      obtain ⟨j4, ej4, lj4, h⟩ := h
      refine zwp_ldx (n := 1300) (cd := 1152) (i := 0) (pc' := 125) (ls := [some (.inr (some (16, 0))), some (.inl x1), some (.inl x2), some (.inl x3), some (.inl x4), some (.inl x5)]) (r := [.inl (S 1152 0 j3)]) (t := (S, d)) rfl ej4 lj4 (by decide) ?_
      refine zwp_br rfl (fun hb => ?_) (fun hb => ?_)
      · show zwp 121 (133, [some (.inr (some (16, 0))), some (.inl x1), some (.inl x2), some (.inl x3), some (.inl x4), some (.inl x5)], [], (S, d)) Q
        replace h := h.2 (zne_t hb)
        refine zwp_blk 4 (c' := (94, [some (.inr (some (16, 0))), some (.inl x1), some (.inl x2), some (.inl x3), some (.inl x4), some (.inl (x5 + nI 1))], [], (S, d))) rfl ?_
        exact h
      · show zwp 121 (128, [some (.inr (some (16, 0))), some (.inl x1), some (.inl x2), some (.inl x3), some (.inl x4), some (.inl x5)], [], (S, d)) Q
        replace h := h.1 (zne_f hb)
        refine zwp_blk 5 (c' := (94, [some (.inr (some (16, 0))), some (.inl x1), some (.inl x2), some (.inl x3), some (.inl x5), some (.inl (x5 + nI 1))], [], (S, d))) rfl ?_
        exact h
-- 122 PageKeeperModel.lock
theorem w122_0 {S : zS} {d : Nat} {Q : zO → zT → Prop} {x1 : Int32} {x2 : Int32} (h : zwp 96 (0, zent 96 [.inr (some (16, 0)), .inl x1], [], (zu S 1024 0 0 (nI 0), d)) (zaf 122 10 [some (.inr (some (16, 0))), some (.inl x1), some (.inl x2)] [] Q)) : zwp 122 (0, [some (.inr (some (16, 0))), some (.inl x1), some (.inl x2)], [], (S, d)) Q := by
  refine zwp_blk 5 (c' := (7, [some (.inr (some (16, 0))), some (.inl x1), some (.inl x2)], [.inl x1, .inr (some (16, 0))], (zu S 1024 0 0 (nI 0), d))) rfl ?_
  exact zwp_call rfl h
theorem w122_10 {S : zS} {d : Nat} {Q : zO → zT → Prop} {x1 : Int32} {x2 : Int32} {y0 : Int32} (h : (y0 = 0 → Q (.inl (some (.inl (zint (-1))))) (S, d)) ∧ (¬ y0 = 0 → zwp 77 (0, zent 77 [.inl x2, .inl (nI 0), .inl (nI 39)], [], (S, d)) (zaf 122 20 [some (.inr (some (16, 0))), some (.inl x1), some (.inl x2)] [] Q))) : zwp 122 (10, [some (.inr (some (16, 0))), some (.inl x1), some (.inl x2)], [.inl y0], (S, d)) Q := by
  refine zwp_br rfl (fun hb => ?_) (fun hb => ?_)
  · show zwp 122 (46, [some (.inr (some (16, 0))), some (.inl x1), some (.inl x2)], [], (S, d)) Q
    replace h := h.1 (of_decide_eq_true hb)
    refine zwp_blk 1 (c' := (47, [some (.inr (some (16, 0))), some (.inl x1), some (.inl x2)], [.inl (zint (-1))], (S, d))) rfl ?_
    exact zwp_end rfl h
  · show zwp 122 (13, [some (.inr (some (16, 0))), some (.inl x1), some (.inl x2)], [], (S, d)) Q
    replace h := h.2 (of_decide_eq_false hb)
    refine zwp_blk 3 (c' := (17, [some (.inr (some (16, 0))), some (.inl x1), some (.inl x2)], [.inl (nI 39), .inl (nI 0), .inl x2], (S, d))) rfl ?_
    exact zwp_call rfl h
theorem w122_20 {S : zS} {d : Nat} {Q : zO → zT → Prop} {x1 : Int32} {x2 : Int32} {y0 : Int32} (h : (y0 = 0 → Q (.inl (some (.inl (zint (-1))))) (S, d)) ∧ (¬ y0 = 0 → ∃ j1 : Nat, x1 = nI j1 ∧ j1 < 4 ∧ (((S 2112 0 j1) ≤ 0 → Q (.inl (some (.inl (zint (-1))))) (S, d)) ∧ (¬ (S 2112 0 j1) ≤ 0 → ∃ j2 : Nat, ((nI 40) * x1) + x2 = nI j2 ∧ j2 < 160 ∧ (Q (.inl (some (.inl (S 2176 0 j2)))) (S, d)))))) : zwp 122 (20, [some (.inr (some (16, 0))), some (.inl x1), some (.inl x2)], [.inl y0], (S, d)) Q := by
  refine zwp_br rfl (fun hb => ?_) (fun hb => ?_)
  · show zwp 122 (46, [some (.inr (some (16, 0))), some (.inl x1), some (.inl x2)], [], (S, d)) Q
    replace h := h.1 (of_decide_eq_true hb)
    refine zwp_blk 1 (c' := (47, [some (.inr (some (16, 0))), some (.inl x1), some (.inl x2)], [.inl (zint (-1))], (S, d))) rfl ?_
    exact zwp_end rfl h
  · show zwp 122 (23, [some (.inr (some (16, 0))), some (.inl x1), some (.inl x2)], [], (S, d)) Q
    replace h := h.2 (of_decide_eq_false hb)
    refine zwp_blk 3 (c' := (28, [some (.inr (some (16, 0))), some (.inl x1), some (.inl x2)], [.inl x1, .inr (some (33, 0))], (S, d))) rfl ?_
    obtain ⟨j1, ej1, lj1, h⟩ := h
    refine zwp_ldx (n := 4) (cd := 2112) (i := 0) (pc' := 29) (ls := [some (.inr (some (16, 0))), some (.inl x1), some (.inl x2)]) (r := []) (t := (S, d)) rfl ej1 lj1 (by decide) ?_
    refine zwp_br rfl (fun hb => ?_) (fun hb => ?_)
    · show zwp 122 (46, [some (.inr (some (16, 0))), some (.inl x1), some (.inl x2)], [], (S, d)) Q
      replace h := h.1 (of_decide_eq_true hb)
      refine zwp_blk 1 (c' := (47, [some (.inr (some (16, 0))), some (.inl x1), some (.inl x2)], [.inl (zint (-1))], (S, d))) rfl ?_
      exact zwp_end rfl h
    · show zwp 122 (32, [some (.inr (some (16, 0))), some (.inl x1), some (.inl x2)], [], (S, d)) Q
      replace h := h.2 (of_decide_eq_false hb)
      refine zwp_blk 7 (c' := (42, [some (.inr (some (16, 0))), some (.inl x1), some (.inl x2)], [.inl (((nI 40) * x1) + x2), .inr (some (34, 0))], (S, d))) rfl ?_
      obtain ⟨j2, ej2, lj2, h⟩ := h
      refine zwp_ldx (n := 160) (cd := 2176) (i := 0) (pc' := 43) (ls := [some (.inr (some (16, 0))), some (.inl x1), some (.inl x2)]) (r := []) (t := (S, d)) rfl ej2 lj2 (by decide) ?_
      refine zwp_blk 1 (c' := (47, [some (.inr (some (16, 0))), some (.inl x1), some (.inl x2)], [.inl (S 2176 0 j2)], (S, d))) rfl ?_
      exact zwp_end rfl h
