-- 0 PageKeeper.begin
theorem w0_0 {S : zS} {d : Nat} {Q : zO → zT → Prop} {x1 : Int32} (h : zwp 19 (0, zent 19 [.inl x1], [], (S, d)) (zaf 0 4 [some (.inr (some (0, 0))), some (.inl x1)] [] Q)) : zwp 0 (0, [some (.inr (some (0, 0))), some (.inl x1)], [], (S, d)) Q := by
  refine zwp_blk 1 (c' := (1, [some (.inr (some (0, 0))), some (.inl x1)], [.inl x1], (S, d))) rfl ?_
  exact zwp_call rfl h
theorem w0_4 {S : zS} {d : Nat} {Q : zO → zT → Prop} {x1 : Int32} (h : ∃ j1 : Nat, x1 = nI j1 ∧ j1 < 4 ∧ (((S 960 0 j1) = 0 → zwp 22 (0, zent 22 [.inr (some (0, 0))], [], (S, d)) (zaf 0 25 [some (.inr (some (0, 0))), some (.inl x1)] [] Q)) ∧ (¬ (S 960 0 j1) = 0 → Q (.inr 2) (S, d)))) : zwp 0 (4, [some (.inr (some (0, 0))), some (.inl x1)], [], (S, d)) Q := by
  refine zwp_blk 3 (c' := (9, [some (.inr (some (0, 0))), some (.inl x1)], [.inl x1, .inr (some (15, 0))], (S, d))) rfl ?_
  obtain ⟨j1, ej1, lj1, h⟩ := h
  refine zwp_ldx (n := 4) (cd := 960) (i := 0) (pc' := 10) (ls := [some (.inr (some (0, 0))), some (.inl x1)]) (r := []) (t := (S, d)) rfl ej1 lj1 (by decide) ?_
  refine zwp_br rfl (fun hb => ?_) (fun hb => ?_)
  · show zwp 0 (21, [some (.inr (some (0, 0))), some (.inl x1)], [], (S, d)) Q
    replace h := h.1 (of_decide_eq_true hb)
    refine zwp_blk 1 (c' := (22, [some (.inr (some (0, 0))), some (.inl x1)], [.inr (some (0, 0))], (S, d))) rfl ?_
    exact zwp_call rfl h
  · show zwp 0 (13, [some (.inr (some (0, 0))), some (.inl x1)], [], (S, d)) Q
    replace h := h.2 (of_decide_eq_false hb)
    exact zwp_end rfl h
theorem w0_25 {S : zS} {d : Nat} {Q : zO → zT → Prop} {x1 : Int32} {y0 : Int32} (h : (y0 = 0 → ∃ j1 : Nat, x1 = nI j1 ∧ j1 < 4 ∧ (Q (.inl (some (.inl ((S 6 0 0) + (nI 1))))) (zu (zu S 6 0 0 ((S 6 0 0) + (nI 1))) 960 0 j1 (((S 6 0 0) + (nI 1))), d))) ∧ (¬ y0 = 0 → Q (.inl (some (.inl (zint (-1))))) (S, d))) : zwp 0 (25, [some (.inr (some (0, 0))), some (.inl x1)], [.inl y0], (S, d)) Q := by
  refine zwp_br rfl (fun hb => ?_) (fun hb => ?_)
  · show zwp 0 (30, [some (.inr (some (0, 0))), some (.inl x1)], [], (S, d)) Q
    replace h := h.1 (of_decide_eq_true hb)
    refine zwp_blk 11 (c' := (49, [some (.inr (some (0, 0))), some (.inl x1)], [.inl ((S 6 0 0) + (nI 1)), .inl x1, .inr (some (15, 0))], (zu S 6 0 0 ((S 6 0 0) + (nI 1)), d))) rfl ?_
    obtain ⟨j1, ej1, lj1, h⟩ := h
    refine zwp_stx (n := 4) (cd := 960) (i := 0) (v := ((S 6 0 0) + (nI 1))) (pc' := 50) (ls := [some (.inr (some (0, 0))), some (.inl x1)]) (r := []) (t := (zu S 6 0 0 ((S 6 0 0) + (nI 1)), d)) rfl ej1 lj1 (by decide) ?_
    refine zwp_blk 2 (c' := (54, [some (.inr (some (0, 0))), some (.inl x1)], [.inl ((S 6 0 0) + (nI 1))], (zu (zu S 6 0 0 ((S 6 0 0) + (nI 1))) 960 0 j1 (((S 6 0 0) + (nI 1))), d))) rfl ?_
    exact zwp_end rfl h
  · show zwp 0 (28, [some (.inr (some (0, 0))), some (.inl x1)], [], (S, d)) Q
    replace h := h.2 (of_decide_eq_false hb)
    refine zwp_blk 1 (c' := (29, [some (.inr (some (0, 0))), some (.inl x1)], [.inl (zint (-1))], (S, d))) rfl ?_
    exact zwp_end rfl h
-- 1 PageKeeper.get
theorem w1_0 {S : zS} {d : Nat} {Q : zO → zT → Prop} {x1 : Int32} {x2 : Int32} (h : zwp 20 (0, zent 20 [.inl x1, .inl x2], [], (S, d)) (zaf 1 5 [some (.inr (some (0, 0))), some (.inl x1), some (.inl x2), none, none] [] Q)) : zwp 1 (0, [some (.inr (some (0, 0))), some (.inl x1), some (.inl x2), none, none], [], (S, d)) Q := by
  refine zwp_blk 2 (c' := (2, [some (.inr (some (0, 0))), some (.inl x1), some (.inl x2), none, none], [.inl x2, .inl x1], (S, d))) rfl ?_
  exact zwp_call rfl h
theorem w1_5 {S : zS} {d : Nat} {Q : zO → zT → Prop} {x1 : Int32} {x2 : Int32} (h : zwp 21 (0, zent 21 [.inr (some (0, 0)), .inl x1], [], (S, d)) (zaf 1 10 [some (.inr (some (0, 0))), some (.inl x1), some (.inl x2), none, none] [] Q)) : zwp 1 (5, [some (.inr (some (0, 0))), some (.inl x1), some (.inl x2), none, none], [], (S, d)) Q := by
  refine zwp_blk 2 (c' := (7, [some (.inr (some (0, 0))), some (.inl x1), some (.inl x2), none, none], [.inl x1, .inr (some (0, 0))], (S, d))) rfl ?_
  exact zwp_call rfl h
theorem w1_10 {S : zS} {d : Nat} {Q : zO → zT → Prop} {x1 : Int32} {x2 : Int32} (h : ∃ j1 : Nat, x2 = nI j1 ∧ j1 < 40 ∧ (((S 576 0 j1) = 0 → zwp 54 (0, zent 54 [.inr (some (6, 0)), .inl x1, .inl x2], [], (S, d)) (zaf 1 45 [some (.inr (some (0, 0))), some (.inl x1), some (.inl x2), none, none] [] Q)) ∧ (¬ (S 576 0 j1) = 0 → ∃ j2 : Nat, x2 = nI j2 ∧ j2 < 40 ∧ (zwp 24 (0, zent 24 [.inr (some (0, 0)), .inl (S 576 0 j2)], [], (S, d)) (zaf 1 35 [some (.inr (some (0, 0))), some (.inl x1), some (.inl x2), none, none] [] Q))))) : zwp 1 (10, [some (.inr (some (0, 0))), some (.inl x1), some (.inl x2), none, none], [], (S, d)) Q := by
  refine zwp_blk 4 (c' := (18, [some (.inr (some (0, 0))), some (.inl x1), some (.inl x2), none, none], [.inl x2, .inr (some (9, 0))], (S, d))) rfl ?_
  obtain ⟨j1, ej1, lj1, h⟩ := h
  refine zwp_ldx (n := 40) (cd := 576) (i := 0) (pc' := 19) (ls := [some (.inr (some (0, 0))), some (.inl x1), some (.inl x2), none, none]) (r := []) (t := (S, d)) rfl ej1 lj1 (by decide) ?_
  refine zwp_br rfl (fun hb => ?_) (fun hb => ?_)
  · show zwp 1 (36, [some (.inr (some (0, 0))), some (.inl x1), some (.inl x2), none, none], [], (S, d)) Q
    replace h := h.1 (of_decide_eq_true hb)
    refine zwp_blk 4 (c' := (42, [some (.inr (some (0, 0))), some (.inl x1), some (.inl x2), none, none], [.inl x2, .inl x1, .inr (some (6, 0))], (S, d))) rfl ?_
    exact zwp_call rfl h
  · show zwp 1 (22, [some (.inr (some (0, 0))), some (.inl x1), some (.inl x2), none, none], [], (S, d)) Q
    replace h := h.2 (of_decide_eq_false hb)
    refine zwp_blk 5 (c' := (31, [some (.inr (some (0, 0))), some (.inl x1), some (.inl x2), none, none], [.inl x2, .inr (some (9, 0)), .inr (some (0, 0))], (S, d))) rfl ?_
    obtain ⟨j2, ej2, lj2, h⟩ := h
    refine zwp_ldx (n := 40) (cd := 576) (i := 0) (pc' := 32) (ls := [some (.inr (some (0, 0))), some (.inl x1), some (.inl x2), none, none]) (r := [.inr (some (0, 0))]) (t := (S, d)) rfl ej2 lj2 (by decide) ?_
    exact zwp_call rfl h
theorem w1_35 {S : zS} {d : Nat} {Q : zO → zT → Prop} {x1 : Int32} {x2 : Int32} {y0 : Int32} (h : zwp 54 (0, zent 54 [.inr (some (6, 0)), .inl x1, .inl x2], [], (S, d)) (zaf 1 45 [some (.inr (some (0, 0))), some (.inl x1), some (.inl x2), none, none] [] Q)) : zwp 1 (35, [some (.inr (some (0, 0))), some (.inl x1), some (.inl x2), none, none], [.inl y0], (S, d)) Q := by
  refine zwp_blk 5 (c' := (42, [some (.inr (some (0, 0))), some (.inl x1), some (.inl x2), none, none], [.inl x2, .inl x1, .inr (some (6, 0))], (S, d))) rfl ?_
  exact zwp_call rfl h
theorem w1_45 {S : zS} {d : Nat} {Q : zO → zT → Prop} {x1 : Int32} {x2 : Int32} (h : zwp 28 (0, zent 28 [.inr (some (0, 0)), .inl x2], [], (S, d)) (zaf 1 54 [some (.inr (some (0, 0))), some (.inl x1), some (.inl x2), none, none] [.inr (some (10, 0))] Q)) : zwp 1 (45, [some (.inr (some (0, 0))), some (.inl x1), some (.inl x2), none, none], [], (S, d)) Q := by
  refine zwp_blk 4 (c' := (51, [some (.inr (some (0, 0))), some (.inl x1), some (.inl x2), none, none], [.inl x2, .inr (some (0, 0)), .inr (some (10, 0))], (S, d))) rfl ?_
  exact zwp_call rfl h
theorem w1_54 {S : zS} {d : Nat} {Q : zO → zT → Prop} {x1 : Int32} {x2 : Int32} {y0 : Int32} (h : ∃ j1 : Nat, y0 = nI j1 ∧ j1 < 40 ∧ (zwp 68 (0, zent 68 [.inr (some (12, j1)), .inl x2], [], (S, d)) (zaf 1 64 [some (.inr (some (0, 0))), some (.inl x1), some (.inl x2), some (.inr (some (12, j1))), none] [] Q))) : zwp 1 (54, [some (.inr (some (0, 0))), some (.inl x1), some (.inl x2), none, none], [.inl y0, .inr (some (10, 0))], (S, d)) Q := by
  obtain ⟨j1, ej1, lj1, h⟩ := h
  refine zwp_aldx (n := 40) (k := 11) (pc' := 55) (ls := [some (.inr (some (0, 0))), some (.inl x1), some (.inl x2), none, none]) (r := []) (t := (S, d)) rfl ej1 lj1 (by decide) (zok_11 lj1) ?_
  refine zwp_blk 4 (c' := (61, [some (.inr (some (0, 0))), some (.inl x1), some (.inl x2), some (.inr (some (12, j1))), none], [.inl x2, .inr (some (12, j1))], (S, d))) rfl ?_
  exact zwp_call rfl h
theorem w1_64 {S : zS} {d : Nat} {Q : zO → zT → Prop} {x1 : Int32} {x2 : Int32} {x3 : Nat} {y0 : Int32} (h : (y0 = (zint (-1)) → Q (.inr 3) (S, d)) ∧ (¬ y0 = (zint (-1)) → ∃ j1 : Nat, y0 = nI j1 ∧ j1 < 4 ∧ (Q (.inl (some (.inl (S 896 x3 j1)))) (S, d)))) : zwp 1 (64, [some (.inr (some (0, 0))), some (.inl x1), some (.inl x2), some (.inr (some (12, x3))), none], [.inl y0], (S, d)) Q := by
  refine zwp_blk 3 (c' := (69, [some (.inr (some (0, 0))), some (.inl x1), some (.inl x2), some (.inr (some (12, x3))), some (.inl y0)], [.inl (zint (-1)), .inl y0], (S, d))) rfl ?_
  refine zwp_br rfl (fun hb => ?_) (fun hb => ?_)
  · show zwp 1 (80, [some (.inr (some (0, 0))), some (.inl x1), some (.inl x2), some (.inr (some (12, x3))), some (.inl y0)], [], (S, d)) Q
    replace h := h.2 (zne_t hb)
    refine zwp_blk 3 (c' := (86, [some (.inr (some (0, 0))), some (.inl x1), some (.inl x2), some (.inr (some (12, x3))), some (.inl y0)], [.inl y0, .inr (some (14, x3))], (S, d))) rfl ?_
    obtain ⟨j1, ej1, lj1, h⟩ := h
    refine zwp_ldx (n := 4) (cd := 896) (i := x3) (pc' := 87) (ls := [some (.inr (some (0, 0))), some (.inl x1), some (.inl x2), some (.inr (some (12, x3))), some (.inl y0)]) (r := []) (t := (S, d)) rfl ej1 lj1 (by decide) ?_
    exact zwp_end rfl h
  · show zwp 1 (72, [some (.inr (some (0, 0))), some (.inl x1), some (.inl x2), some (.inr (some (12, x3))), some (.inl y0)], [], (S, d)) Q
    replace h := h.1 (zne_f hb)
    exact zwp_end rfl h
-- 2 PageKeeper.put
theorem w2_0 {S : zS} {d : Nat} {Q : zO → zT → Prop} {x1 : Int32} {x2 : Int32} {x3 : Int32} (h : zwp 20 (0, zent 20 [.inl x1, .inl x2], [], (S, d)) (zaf 2 5 [some (.inr (some (0, 0))), some (.inl x1), some (.inl x2), some (.inl x3)] [] Q)) : zwp 2 (0, [some (.inr (some (0, 0))), some (.inl x1), some (.inl x2), some (.inl x3)], [], (S, d)) Q := by
  refine zwp_blk 2 (c' := (2, [some (.inr (some (0, 0))), some (.inl x1), some (.inl x2), some (.inl x3)], [.inl x2, .inl x1], (S, d))) rfl ?_
  exact zwp_call rfl h
theorem w2_5 {S : zS} {d : Nat} {Q : zO → zT → Prop} {x1 : Int32} {x2 : Int32} {x3 : Int32} (h : zwp 21 (0, zent 21 [.inr (some (0, 0)), .inl x1], [], (S, d)) (zaf 2 10 [some (.inr (some (0, 0))), some (.inl x1), some (.inl x2), some (.inl x3)] [] Q)) : zwp 2 (5, [some (.inr (some (0, 0))), some (.inl x1), some (.inl x2), some (.inl x3)], [], (S, d)) Q := by
  refine zwp_blk 2 (c' := (7, [some (.inr (some (0, 0))), some (.inl x1), some (.inl x2), some (.inl x3)], [.inl x1, .inr (some (0, 0))], (S, d))) rfl ?_
  exact zwp_call rfl h
theorem w2_10 {S : zS} {d : Nat} {Q : zO → zT → Prop} {x1 : Int32} {x2 : Int32} {x3 : Int32} (h : ∃ j1 : Nat, x2 = nI j1 ∧ j1 < 40 ∧ (((S 576 0 j1) = 0 → zwp 55 (0, zent 55 [.inr (some (6, 0)), .inl x1, .inl x2], [], (S, d)) (zaf 2 45 [some (.inr (some (0, 0))), some (.inl x1), some (.inl x2), some (.inl x3)] [] Q)) ∧ (¬ (S 576 0 j1) = 0 → ∃ j2 : Nat, x2 = nI j2 ∧ j2 < 40 ∧ (zwp 24 (0, zent 24 [.inr (some (0, 0)), .inl (S 576 0 j2)], [], (S, d)) (zaf 2 35 [some (.inr (some (0, 0))), some (.inl x1), some (.inl x2), some (.inl x3)] [] Q))))) : zwp 2 (10, [some (.inr (some (0, 0))), some (.inl x1), some (.inl x2), some (.inl x3)], [], (S, d)) Q := by
  refine zwp_blk 4 (c' := (18, [some (.inr (some (0, 0))), some (.inl x1), some (.inl x2), some (.inl x3)], [.inl x2, .inr (some (9, 0))], (S, d))) rfl ?_
  obtain ⟨j1, ej1, lj1, h⟩ := h
  refine zwp_ldx (n := 40) (cd := 576) (i := 0) (pc' := 19) (ls := [some (.inr (some (0, 0))), some (.inl x1), some (.inl x2), some (.inl x3)]) (r := []) (t := (S, d)) rfl ej1 lj1 (by decide) ?_
  refine zwp_br rfl (fun hb => ?_) (fun hb => ?_)
  · show zwp 2 (36, [some (.inr (some (0, 0))), some (.inl x1), some (.inl x2), some (.inl x3)], [], (S, d)) Q
    replace h := h.1 (of_decide_eq_true hb)
    refine zwp_blk 4 (c' := (42, [some (.inr (some (0, 0))), some (.inl x1), some (.inl x2), some (.inl x3)], [.inl x2, .inl x1, .inr (some (6, 0))], (S, d))) rfl ?_
    exact zwp_call rfl h
  · show zwp 2 (22, [some (.inr (some (0, 0))), some (.inl x1), some (.inl x2), some (.inl x3)], [], (S, d)) Q
    replace h := h.2 (of_decide_eq_false hb)
    refine zwp_blk 5 (c' := (31, [some (.inr (some (0, 0))), some (.inl x1), some (.inl x2), some (.inl x3)], [.inl x2, .inr (some (9, 0)), .inr (some (0, 0))], (S, d))) rfl ?_
    obtain ⟨j2, ej2, lj2, h⟩ := h
    refine zwp_ldx (n := 40) (cd := 576) (i := 0) (pc' := 32) (ls := [some (.inr (some (0, 0))), some (.inl x1), some (.inl x2), some (.inl x3)]) (r := [.inr (some (0, 0))]) (t := (S, d)) rfl ej2 lj2 (by decide) ?_
    exact zwp_call rfl h
theorem w2_35 {S : zS} {d : Nat} {Q : zO → zT → Prop} {x1 : Int32} {x2 : Int32} {x3 : Int32} {y0 : Int32} (h : zwp 55 (0, zent 55 [.inr (some (6, 0)), .inl x1, .inl x2], [], (S, d)) (zaf 2 45 [some (.inr (some (0, 0))), some (.inl x1), some (.inl x2), some (.inl x3)] [] Q)) : zwp 2 (35, [some (.inr (some (0, 0))), some (.inl x1), some (.inl x2), some (.inl x3)], [.inl y0], (S, d)) Q := by
  refine zwp_blk 5 (c' := (42, [some (.inr (some (0, 0))), some (.inl x1), some (.inl x2), some (.inl x3)], [.inl x2, .inl x1, .inr (some (6, 0))], (S, d))) rfl ?_
  exact zwp_call rfl h
theorem w2_45 {S : zS} {d : Nat} {Q : zO → zT → Prop} {x1 : Int32} {x2 : Int32} {x3 : Int32} (h : zwp 22 (0, zent 22 [.inr (some (0, 0))], [], (S, d)) (zaf 2 49 [some (.inr (some (0, 0))), some (.inl x1), some (.inl x2), some (.inl x3)] [] Q)) : zwp 2 (45, [some (.inr (some (0, 0))), some (.inl x1), some (.inl x2), some (.inl x3)], [], (S, d)) Q := by
  refine zwp_blk 1 (c' := (46, [some (.inr (some (0, 0))), some (.inl x1), some (.inl x2), some (.inl x3)], [.inr (some (0, 0))], (S, d))) rfl ?_
  exact zwp_call rfl h
theorem w2_49 {S : zS} {d : Nat} {Q : zO → zT → Prop} {x1 : Int32} {x2 : Int32} {x3 : Int32} {y0 : Int32} (h : (y0 = 0 → ∃ j1 : Nat, x1 = nI j1 ∧ j1 < 4 ∧ (zwp 25 (0, zent 25 [.inr (some (0, 0)), .inl (S 960 0 j1), .inl x2, .inl x3, .inl (nI 0)], [], (S, d)) (zaf 2 67 [some (.inr (some (0, 0))), some (.inl x1), some (.inl x2), some (.inl x3)] [] Q))) ∧ (¬ y0 = 0 → Q (.inl (some (.inl (zint (-1))))) (S, d))) : zwp 2 (49, [some (.inr (some (0, 0))), some (.inl x1), some (.inl x2), some (.inl x3)], [.inl y0], (S, d)) Q := by
  refine zwp_br rfl (fun hb => ?_) (fun hb => ?_)
  · show zwp 2 (54, [some (.inr (some (0, 0))), some (.inl x1), some (.inl x2), some (.inl x3)], [], (S, d)) Q
    replace h := h.1 (of_decide_eq_true hb)
    refine zwp_blk 4 (c' := (60, [some (.inr (some (0, 0))), some (.inl x1), some (.inl x2), some (.inl x3)], [.inl x1, .inr (some (15, 0)), .inr (some (0, 0))], (S, d))) rfl ?_
    obtain ⟨j1, ej1, lj1, h⟩ := h
    refine zwp_ldx (n := 4) (cd := 960) (i := 0) (pc' := 61) (ls := [some (.inr (some (0, 0))), some (.inl x1), some (.inl x2), some (.inl x3)]) (r := [.inr (some (0, 0))]) (t := (S, d)) rfl ej1 lj1 (by decide) ?_
    refine zwp_blk 3 (c' := (64, [some (.inr (some (0, 0))), some (.inl x1), some (.inl x2), some (.inl x3)], [.inl (nI 0), .inl x3, .inl x2, .inl (S 960 0 j1), .inr (some (0, 0))], (S, d))) rfl ?_
    exact zwp_call rfl h
  · show zwp 2 (52, [some (.inr (some (0, 0))), some (.inl x1), some (.inl x2), some (.inl x3)], [], (S, d)) Q
    replace h := h.2 (of_decide_eq_false hb)
    refine zwp_blk 1 (c' := (53, [some (.inr (some (0, 0))), some (.inl x1), some (.inl x2), some (.inl x3)], [.inl (zint (-1))], (S, d))) rfl ?_
    exact zwp_end rfl h
theorem w2_67 {S : zS} {d : Nat} {Q : zO → zT → Prop} {x1 : Int32} {x2 : Int32} {x3 : Int32} {y0 : Int32} (h : Q (.inl (some (.inl y0))) (S, d)) : zwp 2 (67, [some (.inr (some (0, 0))), some (.inl x1), some (.inl x2), some (.inl x3)], [.inl y0], (S, d)) Q := by
  exact zwp_end rfl h
-- 3 PageKeeper.remove
theorem w3_0 {S : zS} {d : Nat} {Q : zO → zT → Prop} {x1 : Int32} {x2 : Int32} (h : zwp 20 (0, zent 20 [.inl x1, .inl x2], [], (S, d)) (zaf 3 5 [some (.inr (some (0, 0))), some (.inl x1), some (.inl x2), none] [] Q)) : zwp 3 (0, [some (.inr (some (0, 0))), some (.inl x1), some (.inl x2), none], [], (S, d)) Q := by
  refine zwp_blk 2 (c' := (2, [some (.inr (some (0, 0))), some (.inl x1), some (.inl x2), none], [.inl x2, .inl x1], (S, d))) rfl ?_
  exact zwp_call rfl h
theorem w3_5 {S : zS} {d : Nat} {Q : zO → zT → Prop} {x1 : Int32} {x2 : Int32} (h : zwp 21 (0, zent 21 [.inr (some (0, 0)), .inl x1], [], (S, d)) (zaf 3 10 [some (.inr (some (0, 0))), some (.inl x1), some (.inl x2), none] [] Q)) : zwp 3 (5, [some (.inr (some (0, 0))), some (.inl x1), some (.inl x2), none], [], (S, d)) Q := by
  refine zwp_blk 2 (c' := (7, [some (.inr (some (0, 0))), some (.inl x1), some (.inl x2), none], [.inl x1, .inr (some (0, 0))], (S, d))) rfl ?_
  exact zwp_call rfl h
theorem w3_10 {S : zS} {d : Nat} {Q : zO → zT → Prop} {x1 : Int32} {x2 : Int32} (h : ∃ j1 : Nat, x2 = nI j1 ∧ j1 < 40 ∧ (((S 576 0 j1) = 0 → zwp 55 (0, zent 55 [.inr (some (6, 0)), .inl x1, .inl x2], [], (S, d)) (zaf 3 45 [some (.inr (some (0, 0))), some (.inl x1), some (.inl x2), none] [] Q)) ∧ (¬ (S 576 0 j1) = 0 → ∃ j2 : Nat, x2 = nI j2 ∧ j2 < 40 ∧ (zwp 24 (0, zent 24 [.inr (some (0, 0)), .inl (S 576 0 j2)], [], (S, d)) (zaf 3 35 [some (.inr (some (0, 0))), some (.inl x1), some (.inl x2), none] [] Q))))) : zwp 3 (10, [some (.inr (some (0, 0))), some (.inl x1), some (.inl x2), none], [], (S, d)) Q := by
  refine zwp_blk 4 (c' := (18, [some (.inr (some (0, 0))), some (.inl x1), some (.inl x2), none], [.inl x2, .inr (some (9, 0))], (S, d))) rfl ?_
  obtain ⟨j1, ej1, lj1, h⟩ := h
  refine zwp_ldx (n := 40) (cd := 576) (i := 0) (pc' := 19) (ls := [some (.inr (some (0, 0))), some (.inl x1), some (.inl x2), none]) (r := []) (t := (S, d)) rfl ej1 lj1 (by decide) ?_
  refine zwp_br rfl (fun hb => ?_) (fun hb => ?_)
  · show zwp 3 (36, [some (.inr (some (0, 0))), some (.inl x1), some (.inl x2), none], [], (S, d)) Q
    replace h := h.1 (of_decide_eq_true hb)
    refine zwp_blk 4 (c' := (42, [some (.inr (some (0, 0))), some (.inl x1), some (.inl x2), none], [.inl x2, .inl x1, .inr (some (6, 0))], (S, d))) rfl ?_
    exact zwp_call rfl h
  · show zwp 3 (22, [some (.inr (some (0, 0))), some (.inl x1), some (.inl x2), none], [], (S, d)) Q
    replace h := h.2 (of_decide_eq_false hb)
    refine zwp_blk 5 (c' := (31, [some (.inr (some (0, 0))), some (.inl x1), some (.inl x2), none], [.inl x2, .inr (some (9, 0)), .inr (some (0, 0))], (S, d))) rfl ?_
    obtain ⟨j2, ej2, lj2, h⟩ := h
    refine zwp_ldx (n := 40) (cd := 576) (i := 0) (pc' := 32) (ls := [some (.inr (some (0, 0))), some (.inl x1), some (.inl x2), none]) (r := [.inr (some (0, 0))]) (t := (S, d)) rfl ej2 lj2 (by decide) ?_
    exact zwp_call rfl h
theorem w3_35 {S : zS} {d : Nat} {Q : zO → zT → Prop} {x1 : Int32} {x2 : Int32} {y0 : Int32} (h : zwp 55 (0, zent 55 [.inr (some (6, 0)), .inl x1, .inl x2], [], (S, d)) (zaf 3 45 [some (.inr (some (0, 0))), some (.inl x1), some (.inl x2), none] [] Q)) : zwp 3 (35, [some (.inr (some (0, 0))), some (.inl x1), some (.inl x2), none], [.inl y0], (S, d)) Q := by
  refine zwp_blk 5 (c' := (42, [some (.inr (some (0, 0))), some (.inl x1), some (.inl x2), none], [.inl x2, .inl x1, .inr (some (6, 0))], (S, d))) rfl ?_
  exact zwp_call rfl h
theorem w3_45 {S : zS} {d : Nat} {Q : zO → zT → Prop} {x1 : Int32} {x2 : Int32} (h : zwp 22 (0, zent 22 [.inr (some (0, 0))], [], (S, d)) (zaf 3 49 [some (.inr (some (0, 0))), some (.inl x1), some (.inl x2), none] [] Q)) : zwp 3 (45, [some (.inr (some (0, 0))), some (.inl x1), some (.inl x2), none], [], (S, d)) Q := by
  refine zwp_blk 1 (c' := (46, [some (.inr (some (0, 0))), some (.inl x1), some (.inl x2), none], [.inr (some (0, 0))], (S, d))) rfl ?_
  exact zwp_call rfl h
theorem w3_49 {S : zS} {d : Nat} {Q : zO → zT → Prop} {x1 : Int32} {x2 : Int32} {y0 : Int32} (h : (y0 = 0 → ∃ j1 : Nat, x1 = nI j1 ∧ j1 < 4 ∧ (zwp 26 (0, zent 26 [.inr (some (0, 0)), .inl (S 960 0 j1), .inl x2, .inl (nI 0)], [], (S, d)) (zaf 3 66 [some (.inr (some (0, 0))), some (.inl x1), some (.inl x2), none] [] Q))) ∧ (¬ y0 = 0 → Q (.inl (some (.inl (zint (-1))))) (S, d))) : zwp 3 (49, [some (.inr (some (0, 0))), some (.inl x1), some (.inl x2), none], [.inl y0], (S, d)) Q := by
  refine zwp_br rfl (fun hb => ?_) (fun hb => ?_)
  · show zwp 3 (54, [some (.inr (some (0, 0))), some (.inl x1), some (.inl x2), none], [], (S, d)) Q
    replace h := h.1 (of_decide_eq_true hb)
    refine zwp_blk 4 (c' := (60, [some (.inr (some (0, 0))), some (.inl x1), some (.inl x2), none], [.inl x1, .inr (some (15, 0)), .inr (some (0, 0))], (S, d))) rfl ?_
    obtain ⟨j1, ej1, lj1, h⟩ := h
    refine zwp_ldx (n := 4) (cd := 960) (i := 0) (pc' := 61) (ls := [some (.inr (some (0, 0))), some (.inl x1), some (.inl x2), none]) (r := [.inr (some (0, 0))]) (t := (S, d)) rfl ej1 lj1 (by decide) ?_
    refine zwp_blk 2 (c' := (63, [some (.inr (some (0, 0))), some (.inl x1), some (.inl x2), none], [.inl (nI 0), .inl x2, .inl (S 960 0 j1), .inr (some (0, 0))], (S, d))) rfl ?_
    exact zwp_call rfl h
  · show zwp 3 (52, [some (.inr (some (0, 0))), some (.inl x1), some (.inl x2), none], [], (S, d)) Q
    replace h := h.2 (of_decide_eq_false hb)
    refine zwp_blk 1 (c' := (53, [some (.inr (some (0, 0))), some (.inl x1), some (.inl x2), none], [.inl (zint (-1))], (S, d))) rfl ?_
    exact zwp_end rfl h
theorem w3_66 {S : zS} {d : Nat} {Q : zO → zT → Prop} {x1 : Int32} {x2 : Int32} {y0 : Int32} (h : (y0 = 0 → Q (.inr 3) (S, d)) ∧ (¬ y0 = 0 → ∃ j1 : Nat, y0 = nI j1 ∧ j1 < 1145 ∧ (1 ≤ j1 ∧ j1 ≤ d) ∧ (Q (.inl (some (.inl (S 207 j1 0)))) (S, d)))) : zwp 3 (66, [some (.inr (some (0, 0))), some (.inl x1), some (.inl x2), none], [.inl y0], (S, d)) Q := by
  refine zwp_blk 2 (c' := (68, [some (.inr (some (0, 0))), some (.inl x1), some (.inl x2), some (.inl y0)], [.inl y0], (S, d))) rfl ?_
  refine zwp_br rfl (fun hb => ?_) (fun hb => ?_)
  · show zwp 3 (79, [some (.inr (some (0, 0))), some (.inl x1), some (.inl x2), some (.inl y0)], [], (S, d)) Q
    replace h := h.2 (zne_t hb)
    refine zwp_blk 4 (c' := (87, [some (.inr (some (0, 0))), some (.inl x1), some (.inl x2), some (.inl y0)], [.inl y0, .inr (some (2, 0))], (S, d))) rfl ?_
    obtain ⟨j1, ej1, lj1, h⟩ := h
    refine zwp_aldx (n := 1145) (k := 3) (pc' := 88) (ls := [some (.inr (some (0, 0))), some (.inl x1), some (.inl x2), some (.inl y0)]) (r := []) (t := (S, d)) rfl ej1 lj1 (by decide) (zok_3 h.1) ?_
    replace h := h.2
    refine zwp_blk 1 (c' := (91, [some (.inr (some (0, 0))), some (.inl x1), some (.inl x2), some (.inl y0)], [.inl (S 207 j1 0)], (S, d))) rfl ?_
    exact zwp_end rfl h
  · show zwp 3 (71, [some (.inr (some (0, 0))), some (.inl x1), some (.inl x2), some (.inl y0)], [], (S, d)) Q
    replace h := h.1 (zne_f hb)
    exact zwp_end rfl h
-- 4 PageKeeper.commit
theorem w4_0 {S : zS} {d : Nat} {Q : zO → zT → Prop} {x1 : Int32} (h : zwp 19 (0, zent 19 [.inl x1], [], (S, d)) (zaf 4 4 [some (.inr (some (0, 0))), some (.inl x1), none] [] Q)) : zwp 4 (0, [some (.inr (some (0, 0))), some (.inl x1), none], [], (S, d)) Q := by
  refine zwp_blk 1 (c' := (1, [some (.inr (some (0, 0))), some (.inl x1), none], [.inl x1], (S, d))) rfl ?_
  exact zwp_call rfl h
theorem w4_4 {S : zS} {d : Nat} {Q : zO → zT → Prop} {x1 : Int32} (h : zwp 21 (0, zent 21 [.inr (some (0, 0)), .inl x1], [], (S, d)) (zaf 4 9 [some (.inr (some (0, 0))), some (.inl x1), none] [] Q)) : zwp 4 (4, [some (.inr (some (0, 0))), some (.inl x1), none], [], (S, d)) Q := by
  refine zwp_blk 2 (c' := (6, [some (.inr (some (0, 0))), some (.inl x1), none], [.inl x1, .inr (some (0, 0))], (S, d))) rfl ?_
  exact zwp_call rfl h
theorem w4_9 {S : zS} {d : Nat} {Q : zO → zT → Prop} {x1 : Int32} (h : ∃ j1 : Nat, x1 = nI j1 ∧ j1 < 4 ∧ (zwp 39 (0, zent 39 [.inr (some (1, 0)), .inl (nI 6), .inl (zint (-1)), .inl (zint (-1)), .inl (S 960 0 j1)], [], (S, d)) (zaf 4 26 [some (.inr (some (0, 0))), some (.inl x1), none] [] Q))) : zwp 4 (9, [some (.inr (some (0, 0))), some (.inl x1), none], [], (S, d)) Q := by
  refine zwp_blk 8 (c' := (22, [some (.inr (some (0, 0))), some (.inl x1), none], [.inl x1, .inr (some (15, 0)), .inl (zint (-1)), .inl (zint (-1)), .inl (nI 6), .inr (some (1, 0))], (S, d))) rfl ?_
  obtain ⟨j1, ej1, lj1, h⟩ := h
  refine zwp_ldx (n := 4) (cd := 960) (i := 0) (pc' := 23) (ls := [some (.inr (some (0, 0))), some (.inl x1), none]) (r := [.inl (zint (-1)), .inl (zint (-1)), .inl (nI 6), .inr (some (1, 0))]) (t := (S, d)) rfl ej1 lj1 (by decide) ?_
  exact zwp_call rfl h
theorem w4_26 {S : zS} {d : Nat} {Q : zO → zT → Prop} {x1 : Int32} {y0 : Nat} (h : zwp 41 (0, zent 41 [.inr (some (1, 0)), .inl (S 192 y0 0)], [], (S, d)) (zaf 4 38 [some (.inr (some (0, 0))), some (.inl x1), some (.inr (some (3, y0)))] [] Q)) : zwp 4 (26, [some (.inr (some (0, 0))), some (.inl x1), none], [.inr (some (3, y0))], (S, d)) Q := by
  refine zwp_blk 5 (c' := (35, [some (.inr (some (0, 0))), some (.inl x1), some (.inr (some (3, y0)))], [.inl (S 192 y0 0), .inr (some (1, 0))], (S, d))) rfl ?_
  exact zwp_call rfl h
theorem w4_38 {S : zS} {d : Nat} {Q : zO → zT → Prop} {x1 : Int32} {x2 : Nat} (h : zwp 23 (0, zent 23 [.inr (some (0, 0)), .inl x1], [], (S, d)) (zaf 4 43 [some (.inr (some (0, 0))), some (.inl x1), some (.inr (some (3, x2)))] [] Q)) : zwp 4 (38, [some (.inr (some (0, 0))), some (.inl x1), some (.inr (some (3, x2)))], [], (S, d)) Q := by
  refine zwp_blk 2 (c' := (40, [some (.inr (some (0, 0))), some (.inl x1), some (.inr (some (3, x2)))], [.inl x1, .inr (some (0, 0))], (S, d))) rfl ?_
  exact zwp_call rfl h
theorem w4_43 {S : zS} {d : Nat} {Q : zO → zT → Prop} {x1 : Int32} {x2 : Nat} (h : Q (.inl (some (.inl (S 192 x2 0)))) (S, d)) : zwp 4 (43, [some (.inr (some (0, 0))), some (.inl x1), some (.inr (some (3, x2)))], [], (S, d)) Q := by
  refine zwp_blk 2 (c' := (47, [some (.inr (some (0, 0))), some (.inl x1), some (.inr (some (3, x2)))], [.inl (S 192 x2 0)], (S, d))) rfl ?_
  exact zwp_end rfl h
-- 5 PageKeeper.abort
theorem w5_0 {S : zS} {d : Nat} {Q : zO → zT → Prop} {x1 : Int32} (h : zwp 19 (0, zent 19 [.inl x1], [], (S, d)) (zaf 5 4 [some (.inr (some (0, 0))), some (.inl x1), none] [] Q)) : zwp 5 (0, [some (.inr (some (0, 0))), some (.inl x1), none], [], (S, d)) Q := by
  refine zwp_blk 1 (c' := (1, [some (.inr (some (0, 0))), some (.inl x1), none], [.inl x1], (S, d))) rfl ?_
  exact zwp_call rfl h
theorem w5_4 {S : zS} {d : Nat} {Q : zO → zT → Prop} {x1 : Int32} (h : zwp 21 (0, zent 21 [.inr (some (0, 0)), .inl x1], [], (S, d)) (zaf 5 9 [some (.inr (some (0, 0))), some (.inl x1), none] [] Q)) : zwp 5 (4, [some (.inr (some (0, 0))), some (.inl x1), none], [], (S, d)) Q := by
  refine zwp_blk 2 (c' := (6, [some (.inr (some (0, 0))), some (.inl x1), none], [.inl x1, .inr (some (0, 0))], (S, d))) rfl ?_
  exact zwp_call rfl h
theorem w5_9 {S : zS} {d : Nat} {Q : zO → zT → Prop} {x1 : Int32} (h : ∃ j1 : Nat, x1 = nI j1 ∧ j1 < 4 ∧ (zwp 24 (0, zent 24 [.inr (some (0, 0)), .inl (S 960 0 j1)], [], (S, d)) (zaf 5 19 [some (.inr (some (0, 0))), some (.inl x1), none] [] Q))) : zwp 5 (9, [some (.inr (some (0, 0))), some (.inl x1), none], [], (S, d)) Q := by
  refine zwp_blk 4 (c' := (15, [some (.inr (some (0, 0))), some (.inl x1), none], [.inl x1, .inr (some (15, 0)), .inr (some (0, 0))], (S, d))) rfl ?_
  obtain ⟨j1, ej1, lj1, h⟩ := h
  refine zwp_ldx (n := 4) (cd := 960) (i := 0) (pc' := 16) (ls := [some (.inr (some (0, 0))), some (.inl x1), none]) (r := [.inr (some (0, 0))]) (t := (S, d)) rfl ej1 lj1 (by decide) ?_
  exact zwp_call rfl h
theorem w5_19 {S : zS} {d : Nat} {Q : zO → zT → Prop} {x1 : Int32} {y0 : Int32} (h : zwp 23 (0, zent 23 [.inr (some (0, 0)), .inl x1], [], (S, d)) (zaf 5 25 [some (.inr (some (0, 0))), some (.inl x1), some (.inl y0)] [] Q)) : zwp 5 (19, [some (.inr (some (0, 0))), some (.inl x1), none], [.inl y0], (S, d)) Q := by
  refine zwp_blk 3 (c' := (22, [some (.inr (some (0, 0))), some (.inl x1), some (.inl y0)], [.inl x1, .inr (some (0, 0))], (S, d))) rfl ?_
  exact zwp_call rfl h
theorem w5_25 {S : zS} {d : Nat} {Q : zO → zT → Prop} {x1 : Int32} {x2 : Int32} (h : Q (.inl (some (.inl x2))) (S, d)) : zwp 5 (25, [some (.inr (some (0, 0))), some (.inl x1), some (.inl x2)], [], (S, d)) Q := by
  refine zwp_blk 1 (c' := (26, [some (.inr (some (0, 0))), some (.inl x1), some (.inl x2)], [.inl x2], (S, d))) rfl ?_
  exact zwp_end rfl h
-- 6 PageKeeper.settle
theorem w6_0 {S : zS} {d : Nat} {Q : zO → zT → Prop}  (h : zwp 6 (4, [some (.inr (some (0, 0))), some (.inl (nI 0)), some (.inl (nI 0)), none], [], (S, d)) Q) : zwp 6 (0, [some (.inr (some (0, 0))), none, none, none], [], (S, d)) Q := by
  refine zwp_blk 4 (c' := (4, [some (.inr (some (0, 0))), some (.inl (nI 0)), some (.inl (nI 0)), none], [], (S, d))) rfl ?_
  exact h
theorem w6_4 {S : zS} {d : Nat} {Q : zO → zT → Prop} {x1 : Int32} {x2 : Int32} {x3 : Option zV} (h : ((nI 40) ≤ x2 → Q (.inl (some (.inl x1))) (S, d)) ∧ (¬ (nI 40) ≤ x2 → zwp 60 (0, zent 60 [.inr (some (6, 0)), .inl (nI 0)], [], (S, d)) (zaf 6 18 [some (.inr (some (0, 0))), some (.inl x1), some (.inl x2), x3] [] Q))) : zwp 6 (4, [some (.inr (some (0, 0))), some (.inl x1), some (.inl x2), x3], [], (S, d)) Q := by
  refine zwp_blk 2 (c' := (7, [some (.inr (some (0, 0))), some (.inl x1), some (.inl x2), x3], [.inl (nI 40), .inl x2], (S, d))) rfl ?_
  refine zwp_br rfl (fun hb => ?_) (fun hb => ?_)
  · show zwp 6 (41, [some (.inr (some (0, 0))), some (.inl x1), some (.inl x2), x3], [], (S, d)) Q
    replace h := h.1 (of_decide_eq_true hb)
    refine zwp_blk 1 (c' := (42, [some (.inr (some (0, 0))), some (.inl x1), some (.inl x2), x3], [.inl x1], (S, d))) rfl ?_
    exact zwp_end rfl h
  · show zwp 6 (10, [some (.inr (some (0, 0))), some (.inl x1), some (.inl x2), x3], [], (S, d)) Q
    replace h := h.2 (of_decide_eq_false hb)
    refine zwp_blk 3 (c' := (15, [some (.inr (some (0, 0))), some (.inl x1), some (.inl x2), x3], [.inl (nI 0), .inr (some (6, 0))], (S, d))) rfl ?_
    exact zwp_call rfl h
theorem w6_18 {S : zS} {d : Nat} {Q : zO → zT → Prop} {x1 : Int32} {x2 : Int32} {x3 : Option zV} {y0 : Int32} (h : (y0 = 0 → Q (.inl (some (.inl x1))) (S, d)) ∧ (¬ y0 = 0 → zwp 24 (0, zent 24 [.inr (some (0, 0)), .inl y0], [], (S, d)) (zaf 6 31 [some (.inr (some (0, 0))), some (.inl x1), some (.inl x2), some (.inl y0)] [] Q))) : zwp 6 (18, [some (.inr (some (0, 0))), some (.inl x1), some (.inl x2), x3], [.inl y0], (S, d)) Q := by
  refine zwp_blk 2 (c' := (20, [some (.inr (some (0, 0))), some (.inl x1), some (.inl x2), some (.inl y0)], [.inl y0], (S, d))) rfl ?_
  refine zwp_br rfl (fun hb => ?_) (fun hb => ?_)
  · show zwp 6 (26, [some (.inr (some (0, 0))), some (.inl x1), some (.inl x2), some (.inl y0)], [], (S, d)) Q
    replace h := h.2 (zne_t hb)
    refine zwp_blk 2 (c' := (28, [some (.inr (some (0, 0))), some (.inl x1), some (.inl x2), some (.inl y0)], [.inl y0, .inr (some (0, 0))], (S, d))) rfl ?_
    exact zwp_call rfl h
  · show zwp 6 (23, [some (.inr (some (0, 0))), some (.inl x1), some (.inl x2), some (.inl y0)], [], (S, d)) Q
    replace h := h.1 (zne_f hb)
    refine zwp_blk 2 (c' := (42, [some (.inr (some (0, 0))), some (.inl x1), some (.inl x2), some (.inl y0)], [.inl x1], (S, d))) rfl ?_
    exact zwp_end rfl h
theorem w6_31 {S : zS} {d : Nat} {Q : zO → zT → Prop} {x1 : Int32} {x2 : Int32} {x3 : Int32} {y0 : Int32} (h : zwp 6 (4, [some (.inr (some (0, 0))), some (.inl (x1 + nI 1)), some (.inl (x2 + nI 1)), some (.inl x3)], [], (S, d)) Q) : zwp 6 (31, [some (.inr (some (0, 0))), some (.inl x1), some (.inl x2), some (.inl x3)], [.inl y0], (S, d)) Q := by
  refine zwp_blk 4 (c' := (4, [some (.inr (some (0, 0))), some (.inl (x1 + nI 1)), some (.inl (x2 + nI 1)), some (.inl x3)], [], (S, d))) rfl ?_
  exact h
-- 7 PageKeeper.flush
theorem w7_0 {S : zS} {d : Nat} {Q : zO → zT → Prop} {x1 : Int32} (h : zwp 18 (0, zent 18 [.inr (some (0, 0)), .inl x1], [], (S, d)) (zaf 7 5 [some (.inr (some (0, 0))), some (.inl x1)] [] Q)) : zwp 7 (0, [some (.inr (some (0, 0))), some (.inl x1)], [], (S, d)) Q := by
  refine zwp_blk 2 (c' := (2, [some (.inr (some (0, 0))), some (.inl x1)], [.inl x1, .inr (some (0, 0))], (S, d))) rfl ?_
  exact zwp_call rfl h
theorem w7_5 {S : zS} {d : Nat} {Q : zO → zT → Prop} {x1 : Int32} {y0 : Int32} (h : (y0 = 0 → Q (.inl (some (.inl (nI 0)))) (S, d)) ∧ (¬ y0 = 0 → zwp 48 (0, zent 48 [.inr (some (4, 0)), .inl x1], [], (S, d)) (zaf 7 16 [some (.inr (some (0, 0))), some (.inl x1)] [] Q))) : zwp 7 (5, [some (.inr (some (0, 0))), some (.inl x1)], [.inl y0], (S, d)) Q := by
  refine zwp_br rfl (fun hb => ?_) (fun hb => ?_)
  · show zwp 7 (31, [some (.inr (some (0, 0))), some (.inl x1)], [], (S, d)) Q
    replace h := h.1 (of_decide_eq_true hb)
    refine zwp_blk 1 (c' := (32, [some (.inr (some (0, 0))), some (.inl x1)], [.inl (nI 0)], (S, d))) rfl ?_
    exact zwp_ret01 (x := nI 0) rfl (by decide) h
  · show zwp 7 (8, [some (.inr (some (0, 0))), some (.inl x1)], [], (S, d)) Q
    replace h := h.2 (of_decide_eq_false hb)
    refine zwp_blk 3 (c' := (13, [some (.inr (some (0, 0))), some (.inl x1)], [.inl x1, .inr (some (4, 0))], (S, d))) rfl ?_
    exact zwp_call rfl h
theorem w7_16 {S : zS} {d : Nat} {Q : zO → zT → Prop} {x1 : Int32} {y0 : Int32} (h : (y0 = 0 → Q (.inl (some (.inl (nI 0)))) (S, d)) ∧ (¬ y0 = 0 → zwp 36 (0, zent 36 [.inr (some (0, 0)), .inl x1], [], (S, d)) (zaf 7 24 [some (.inr (some (0, 0))), some (.inl x1)] [] Q))) : zwp 7 (16, [some (.inr (some (0, 0))), some (.inl x1)], [.inl y0], (S, d)) Q := by
  refine zwp_br rfl (fun hb => ?_) (fun hb => ?_)
  · show zwp 7 (31, [some (.inr (some (0, 0))), some (.inl x1)], [], (S, d)) Q
    replace h := h.1 (of_decide_eq_true hb)
    refine zwp_blk 1 (c' := (32, [some (.inr (some (0, 0))), some (.inl x1)], [.inl (nI 0)], (S, d))) rfl ?_
    exact zwp_ret01 (x := nI 0) rfl (by decide) h
  · show zwp 7 (19, [some (.inr (some (0, 0))), some (.inl x1)], [], (S, d)) Q
    replace h := h.2 (of_decide_eq_false hb)
    refine zwp_blk 2 (c' := (21, [some (.inr (some (0, 0))), some (.inl x1)], [.inl x1, .inr (some (0, 0))], (S, d))) rfl ?_
    exact zwp_call rfl h
theorem w7_24 {S : zS} {d : Nat} {Q : zO → zT → Prop} {x1 : Int32} {y0 : Int32} (h : (y0 = 0 → Q (.inl (some (.inl (nI 0)))) (S, d)) ∧ (¬ y0 = 0 → Q (.inl (some (.inl (nI 1)))) (S, d))) : zwp 7 (24, [some (.inr (some (0, 0))), some (.inl x1)], [.inl y0], (S, d)) Q := by
  refine zwp_br rfl (fun hb => ?_) (fun hb => ?_)
  · show zwp 7 (31, [some (.inr (some (0, 0))), some (.inl x1)], [], (S, d)) Q
    replace h := h.1 (of_decide_eq_true hb)
    refine zwp_blk 1 (c' := (32, [some (.inr (some (0, 0))), some (.inl x1)], [.inl (nI 0)], (S, d))) rfl ?_
    exact zwp_ret01 (x := nI 0) rfl (by decide) h
  · show zwp 7 (27, [some (.inr (some (0, 0))), some (.inl x1)], [], (S, d)) Q
    replace h := h.2 (of_decide_eq_false hb)
    refine zwp_blk 2 (c' := (32, [some (.inr (some (0, 0))), some (.inl x1)], [.inl (nI 1)], (S, d))) rfl ?_
    exact zwp_ret01 (x := nI 1) rfl (by decide) h
-- 8 PageKeeper.backup
theorem w8_0 {S : zS} {d : Nat} {Q : zO → zT → Prop} {x1 : Int32} (h : zwp 18 (0, zent 18 [.inr (some (0, 0)), .inl x1], [], (S, d)) (zaf 8 5 [some (.inr (some (0, 0))), some (.inl x1)] [] Q)) : zwp 8 (0, [some (.inr (some (0, 0))), some (.inl x1)], [], (S, d)) Q := by
  refine zwp_blk 2 (c' := (2, [some (.inr (some (0, 0))), some (.inl x1)], [.inl x1, .inr (some (0, 0))], (S, d))) rfl ?_
  exact zwp_call rfl h
theorem w8_5 {S : zS} {d : Nat} {Q : zO → zT → Prop} {x1 : Int32} {y0 : Int32} (h : (y0 = 0 → Q (.inl (some (.inl (nI 0)))) (S, d)) ∧ (¬ y0 = 0 → zwp 33 (0, zent 33 [.inr (some (0, 0)), .inl x1], [], (S, d)) (zaf 8 15 [some (.inr (some (0, 0))), some (.inl x1)] [] Q))) : zwp 8 (5, [some (.inr (some (0, 0))), some (.inl x1)], [.inl y0], (S, d)) Q := by
  refine zwp_br rfl (fun hb => ?_) (fun hb => ?_)
  · show zwp 8 (10, [some (.inr (some (0, 0))), some (.inl x1)], [], (S, d)) Q
    replace h := h.2 (zne_t hb)
    refine zwp_blk 2 (c' := (12, [some (.inr (some (0, 0))), some (.inl x1)], [.inl x1, .inr (some (0, 0))], (S, d))) rfl ?_
    exact zwp_call rfl h
  · show zwp 8 (8, [some (.inr (some (0, 0))), some (.inl x1)], [], (S, d)) Q
    replace h := h.1 (zne_f hb)
    refine zwp_blk 1 (c' := (9, [some (.inr (some (0, 0))), some (.inl x1)], [.inl (nI 0)], (S, d))) rfl ?_
    exact zwp_ret01 (x := nI 0) rfl (by decide) h
theorem w8_15 {S : zS} {d : Nat} {Q : zO → zT → Prop} {x1 : Int32} (h : ∃ j1 : Nat, x1 = nI j1 ∧ j1 < 40 ∧ (zwp 41 (0, zent 41 [.inr (some (1, 0)), .inl (S 705 j1 0)], [], (S, d)) (zaf 8 31 [some (.inr (some (0, 0))), some (.inl x1)] [] Q))) : zwp 8 (15, [some (.inr (some (0, 0))), some (.inl x1)], [], (S, d)) Q := by
  refine zwp_blk 5 (c' := (24, [some (.inr (some (0, 0))), some (.inl x1)], [.inl x1, .inr (some (10, 0)), .inr (some (1, 0))], (S, d))) rfl ?_
  obtain ⟨j1, ej1, lj1, h⟩ := h
  refine zwp_aldx (n := 40) (k := 11) (pc' := 25) (ls := [some (.inr (some (0, 0))), some (.inl x1)]) (r := [.inr (some (1, 0))]) (t := (S, d)) rfl ej1 lj1 (by decide) (zok_11 lj1) ?_
  refine zwp_blk 1 (c' := (28, [some (.inr (some (0, 0))), some (.inl x1)], [.inl (S 705 j1 0), .inr (some (1, 0))], (S, d))) rfl ?_
  exact zwp_call rfl h
theorem w8_31 {S : zS} {d : Nat} {Q : zO → zT → Prop} {x1 : Int32} (h : ∃ j1 : Nat, x1 = nI j1 ∧ j1 < 40 ∧ (∃ j2 : Nat, x1 = nI j2 ∧ j2 < 40 ∧ (Q (.inl (some (.inl (nI 1)))) (zu S 709 j1 0 (S 705 j2 0), d)))) : zwp 8 (31, [some (.inr (some (0, 0))), some (.inl x1)], [], (S, d)) Q := by
  refine zwp_blk 3 (c' := (36, [some (.inr (some (0, 0))), some (.inl x1)], [.inl x1, .inr (some (10, 0))], (S, d))) rfl ?_
  obtain ⟨j1, ej1, lj1, h⟩ := h
  refine zwp_aldx (n := 40) (k := 11) (pc' := 37) (ls := [some (.inr (some (0, 0))), some (.inl x1)]) (r := []) (t := (S, d)) rfl ej1 lj1 (by decide) (zok_11 lj1) ?_
  refine zwp_blk 3 (c' := (42, [some (.inr (some (0, 0))), some (.inl x1)], [.inl x1, .inr (some (10, 0)), .inr (some (11, j1))], (S, d))) rfl ?_
  obtain ⟨j2, ej2, lj2, h⟩ := h
  refine zwp_aldx (n := 40) (k := 11) (pc' := 43) (ls := [some (.inr (some (0, 0))), some (.inl x1)]) (r := [.inr (some (11, j1))]) (t := (S, d)) rfl ej2 lj2 (by decide) (zok_11 lj2) ?_
  refine zwp_blk 3 (c' := (50, [some (.inr (some (0, 0))), some (.inl x1)], [.inl (nI 1)], (zu S 709 j1 0 (S 705 j2 0), d))) rfl ?_
  exact zwp_ret01 (x := nI 1) rfl (by decide) h
-- 9 PageKeeper.damage
theorem w9_0 {S : zS} {d : Nat} {Q : zO → zT → Prop} {x1 : Int32} (h : zwp 18 (0, zent 18 [.inr (some (0, 0)), .inl x1], [], (S, d)) (zaf 9 5 [some (.inr (some (0, 0))), some (.inl x1)] [] Q)) : zwp 9 (0, [some (.inr (some (0, 0))), some (.inl x1)], [], (S, d)) Q := by
  refine zwp_blk 2 (c' := (2, [some (.inr (some (0, 0))), some (.inl x1)], [.inl x1, .inr (some (0, 0))], (S, d))) rfl ?_
  exact zwp_call rfl h
theorem w9_5 {S : zS} {d : Nat} {Q : zO → zT → Prop} {x1 : Int32} {y0 : Int32} (h : (y0 = 0 → Q (.inl (some (.inl (nI 0)))) (S, d)) ∧ (¬ y0 = 0 → ∃ j1 : Nat, x1 = nI j1 ∧ j1 < 40 ∧ (((S 708 j1 0) = 0 → ∃ j2 : Nat, x1 = nI j2 ∧ j2 < 40 ∧ (Q (.inl (some (.inl (nI 1)))) (zu S 708 j2 0 (nI 1), d))) ∧ (¬ (S 708 j1 0) = 0 → Q (.inl (some (.inl (nI 0)))) (S, d))))) : zwp 9 (5, [some (.inr (some (0, 0))), some (.inl x1)], [.inl y0], (S, d)) Q := by
  refine zwp_br rfl (fun hb => ?_) (fun hb => ?_)
  · show zwp 9 (20, [some (.inr (some (0, 0))), some (.inl x1)], [], (S, d)) Q
    replace h := h.1 (of_decide_eq_true hb)
    refine zwp_blk 1 (c' := (21, [some (.inr (some (0, 0))), some (.inl x1)], [.inl (nI 0)], (S, d))) rfl ?_
    exact zwp_ret01 (x := nI 0) rfl (by decide) h
  · show zwp 9 (8, [some (.inr (some (0, 0))), some (.inl x1)], [], (S, d)) Q
    replace h := h.2 (of_decide_eq_false hb)
    refine zwp_blk 3 (c' := (13, [some (.inr (some (0, 0))), some (.inl x1)], [.inl x1, .inr (some (10, 0))], (S, d))) rfl ?_
    obtain ⟨j1, ej1, lj1, h⟩ := h
    refine zwp_aldx (n := 40) (k := 11) (pc' := 14) (ls := [some (.inr (some (0, 0))), some (.inl x1)]) (r := []) (t := (S, d)) rfl ej1 lj1 (by decide) (zok_11 lj1) ?_
    refine zwp_blk 1 (c' := (17, [some (.inr (some (0, 0))), some (.inl x1)], [.inl (S 708 j1 0)], (S, d))) rfl ?_
    refine zwp_br rfl (fun hb => ?_) (fun hb => ?_)
    · show zwp 9 (22, [some (.inr (some (0, 0))), some (.inl x1)], [], (S, d)) Q
      replace h := h.1 (of_decide_eq_true hb)
      refine zwp_blk 3 (c' := (27, [some (.inr (some (0, 0))), some (.inl x1)], [.inl x1, .inr (some (10, 0))], (S, d))) rfl ?_
      obtain ⟨j2, ej2, lj2, h⟩ := h
      refine zwp_aldx (n := 40) (k := 11) (pc' := 28) (ls := [some (.inr (some (0, 0))), some (.inl x1)]) (r := []) (t := (S, d)) rfl ej2 lj2 (by decide) (zok_11 lj2) ?_
      refine zwp_blk 1 (c' := (29, [some (.inr (some (0, 0))), some (.inl x1)], [.inl (nI 1), .inr (some (11, j2))], (S, d))) rfl ?_
      refine zwp_grd (c' := (32, [some (.inr (some (0, 0))), some (.inl x1)], [], (zu S 708 j2 0 (nI 1), d))) rfl (by decide) ?_
      refine zwp_blk 1 (c' := (33, [some (.inr (some (0, 0))), some (.inl x1)], [.inl (nI 1)], (zu S 708 j2 0 (nI 1), d))) rfl ?_
      exact zwp_ret01 (x := nI 1) rfl (by decide) h
    · show zwp 9 (20, [some (.inr (some (0, 0))), some (.inl x1)], [], (S, d)) Q
      replace h := h.2 (of_decide_eq_false hb)
      refine zwp_blk 1 (c' := (21, [some (.inr (some (0, 0))), some (.inl x1)], [.inl (nI 0)], (S, d))) rfl ?_
      exact zwp_ret01 (x := nI 0) rfl (by decide) h
-- 10 PageKeeper.crash
theorem w10_0 {S : zS} {d : Nat} {Q : zO → zT → Prop}  (h : zwp 42 (0, zent 42 [.inr (some (1, 0))], [], (S, d)) (zaf 10 7 [some (.inr (some (0, 0))), none] [] Q)) : zwp 10 (0, [some (.inr (some (0, 0))), none], [], (S, d)) Q := by
  refine zwp_blk 2 (c' := (4, [some (.inr (some (0, 0))), none], [.inr (some (1, 0))], (S, d))) rfl ?_
  exact zwp_call rfl h
theorem w10_7 {S : zS} {d : Nat} {Q : zO → zT → Prop}  (h : zwp 53 (0, zent 53 [.inr (some (4, 0))], [], (S, d)) (zaf 10 14 [some (.inr (some (0, 0))), none] [] Q)) : zwp 10 (7, [some (.inr (some (0, 0))), none], [], (S, d)) Q := by
  refine zwp_blk 2 (c' := (11, [some (.inr (some (0, 0))), none], [.inr (some (4, 0))], (S, d))) rfl ?_
  exact zwp_call rfl h
theorem w10_14 {S : zS} {d : Nat} {Q : zO → zT → Prop}  (h : zwp 10 (16, [some (.inr (some (0, 0))), some (.inl (nI 0))], [], (S, d)) Q) : zwp 10 (14, [some (.inr (some (0, 0))), none], [], (S, d)) Q := by
  refine zwp_blk 2 (c' := (16, [some (.inr (some (0, 0))), some (.inl (nI 0))], [], (S, d))) rfl ?_
  exact h
theorem w10_16 {S : zS} {d : Nat} {Q : zO → zT → Prop} {x1 : Int32} (h : ((nI 4) ≤ x1 → zwp 37 (0, zent 37 [.inr (some (0, 0))], [], (S, d)) (zaf 10 36 [some (.inr (some (0, 0))), some (.inl x1)] [] Q)) ∧ (¬ (nI 4) ≤ x1 → zwp 23 (0, zent 23 [.inr (some (0, 0)), .inl x1], [], (S, d)) (zaf 10 26 [some (.inr (some (0, 0))), some (.inl x1)] [] Q))) : zwp 10 (16, [some (.inr (some (0, 0))), some (.inl x1)], [], (S, d)) Q := by
  refine zwp_blk 2 (c' := (18, [some (.inr (some (0, 0))), some (.inl x1)], [.inl (nI 4), .inl x1], (S, d))) rfl ?_
  refine zwp_br rfl (fun hb => ?_) (fun hb => ?_)
  · show zwp 10 (32, [some (.inr (some (0, 0))), some (.inl x1)], [], (S, d)) Q
    replace h := h.1 (of_decide_eq_true hb)
    refine zwp_blk 1 (c' := (33, [some (.inr (some (0, 0))), some (.inl x1)], [.inr (some (0, 0))], (S, d))) rfl ?_
    exact zwp_call rfl h
  · show zwp 10 (21, [some (.inr (some (0, 0))), some (.inl x1)], [], (S, d)) Q
    replace h := h.2 (of_decide_eq_false hb)
    refine zwp_blk 2 (c' := (23, [some (.inr (some (0, 0))), some (.inl x1)], [.inl x1, .inr (some (0, 0))], (S, d))) rfl ?_
    exact zwp_call rfl h
theorem w10_26 {S : zS} {d : Nat} {Q : zO → zT → Prop} {x1 : Int32} (h : zwp 10 (16, [some (.inr (some (0, 0))), some (.inl (x1 + nI 1))], [], (S, d)) Q) : zwp 10 (26, [some (.inr (some (0, 0))), some (.inl x1)], [], (S, d)) Q := by
  refine zwp_blk 2 (c' := (16, [some (.inr (some (0, 0))), some (.inl (x1 + nI 1))], [], (S, d))) rfl ?_
  exact h
theorem w10_36 {S : zS} {d : Nat} {Q : zO → zT → Prop} {x1 : Int32} (h : zwp 10 (41, [some (.inr (some (0, 0))), some (.inl (S 4 0 0))], [], (S, d)) Q) : zwp 10 (36, [some (.inr (some (0, 0))), some (.inl x1)], [], (S, d)) Q := by
  refine zwp_blk 3 (c' := (41, [some (.inr (some (0, 0))), some (.inl (S 4 0 0))], [], (S, d))) rfl ?_
  exact h
theorem w10_41 {S : zS} {d : Nat} {Q : zO → zT → Prop} {x1 : Int32} (h : ((nI 40) ≤ x1 → zwp 38 (0, zent 38 [.inr (some (0, 0))], [], (S, d)) (zaf 10 66 [some (.inr (some (0, 0))), some (.inl x1)] [] Q)) ∧ (¬ (nI 40) ≤ x1 → ∃ j1 : Nat, x1 = nI j1 ∧ j1 < 40 ∧ (zwp 63 (0, zent 63 [.inr (some (11, j1))], [], (S, d)) (zaf 10 56 [some (.inr (some (0, 0))), some (.inl x1)] [] Q)))) : zwp 10 (41, [some (.inr (some (0, 0))), some (.inl x1)], [], (S, d)) Q := by
  refine zwp_blk 2 (c' := (44, [some (.inr (some (0, 0))), some (.inl x1)], [.inl (nI 40), .inl x1], (S, d))) rfl ?_
  refine zwp_br rfl (fun hb => ?_) (fun hb => ?_)
  · show zwp 10 (62, [some (.inr (some (0, 0))), some (.inl x1)], [], (S, d)) Q
    replace h := h.1 (of_decide_eq_true hb)
    refine zwp_blk 1 (c' := (63, [some (.inr (some (0, 0))), some (.inl x1)], [.inr (some (0, 0))], (S, d))) rfl ?_
    exact zwp_call rfl h
  · show zwp 10 (47, [some (.inr (some (0, 0))), some (.inl x1)], [], (S, d)) Q
    replace h := h.2 (of_decide_eq_false hb)
    refine zwp_blk 3 (c' := (52, [some (.inr (some (0, 0))), some (.inl x1)], [.inl x1, .inr (some (10, 0))], (S, d))) rfl ?_
    obtain ⟨j1, ej1, lj1, h⟩ := h
    refine zwp_aldx (n := 40) (k := 11) (pc' := 53) (ls := [some (.inr (some (0, 0))), some (.inl x1)]) (r := []) (t := (S, d)) rfl ej1 lj1 (by decide) (zok_11 lj1) ?_
    exact zwp_call rfl h
theorem w10_56 {S : zS} {d : Nat} {Q : zO → zT → Prop} {x1 : Int32} (h : zwp 10 (41, [some (.inr (some (0, 0))), some (.inl (x1 + nI 1))], [], (S, d)) Q) : zwp 10 (56, [some (.inr (some (0, 0))), some (.inl x1)], [], (S, d)) Q := by
  refine zwp_blk 2 (c' := (41, [some (.inr (some (0, 0))), some (.inl (x1 + nI 1))], [], (S, d))) rfl ?_
  exact h
theorem w10_66 {S : zS} {d : Nat} {Q : zO → zT → Prop} {x1 : Int32} (h : zwp 61 (0, zent 61 [.inr (some (6, 0))], [], (S, d)) (zaf 10 73 [some (.inr (some (0, 0))), some (.inl x1)] [] Q)) : zwp 10 (66, [some (.inr (some (0, 0))), some (.inl x1)], [], (S, d)) Q := by
  refine zwp_blk 2 (c' := (70, [some (.inr (some (0, 0))), some (.inl x1)], [.inr (some (6, 0))], (S, d))) rfl ?_
  exact zwp_call rfl h
theorem w10_73 {S : zS} {d : Nat} {Q : zO → zT → Prop} {x1 : Int32} {y0 : Int32} (h : Q (.inl (some (.inl y0))) (S, d)) : zwp 10 (73, [some (.inr (some (0, 0))), some (.inl x1)], [.inl y0], (S, d)) Q := by
  exact zwp_end rfl h
-- 11 PageKeeper.page
theorem w11_0 {S : zS} {d : Nat} {Q : zO → zT → Prop} {x1 : Int32} {x2 : Int32} (h : zwp 18 (0, zent 18 [.inr (some (0, 0)), .inl x1], [], (S, d)) (zaf 11 5 [some (.inr (some (0, 0))), some (.inl x1), some (.inl x2), none] [] Q)) : zwp 11 (0, [some (.inr (some (0, 0))), some (.inl x1), some (.inl x2), none], [], (S, d)) Q := by
  refine zwp_blk 2 (c' := (2, [some (.inr (some (0, 0))), some (.inl x1), some (.inl x2), none], [.inl x1, .inr (some (0, 0))], (S, d))) rfl ?_
  exact zwp_call rfl h
theorem w11_5 {S : zS} {d : Nat} {Q : zO → zT → Prop} {x1 : Int32} {x2 : Int32} {y0 : Int32} (h : (y0 = 0 → Q (.inl (some (.inl (zint (-1))))) (S, d)) ∧ (¬ y0 = 0 → ∃ j1 : Nat, x1 = nI j1 ∧ j1 < 40 ∧ ((x2 = nI 0 → zwp 48 (0, zent 48 [.inr (some (4, 0)), .inl x1], [], (S, d)) (zaf 11 64 [some (.inr (some (0, 0))), some (.inl x1), some (.inl x2), some (.inr (some (11, j1)))] [] Q)) ∧ (x2 = nI 1 → Q (.inl (some (.inl (S 707 j1 0)))) (S, d)) ∧ (x2 = nI 2 → Q (.inl (some (.inl (S 709 j1 0)))) (S, d)) ∧ (x2 = nI 3 → ((S 708 j1 0) = 0 → Q (.inl (some (.inl (nI 0)))) (S, d)) ∧ (¬ (S 708 j1 0) = 0 → Q (.inl (some (.inl (nI 1)))) (S, d))) ∧ (x2 = nI 4 → Q (.inl (some (.inl (S 705 j1 0)))) (S, d)) ∧ (x2 = nI 5 → Q (.inl (some (.inl (S 706 j1 0)))) (S, d)) ∧ (¬ x2 = nI 0 → ¬ x2 = nI 1 → ¬ x2 = nI 2 → ¬ x2 = nI 3 → ¬ x2 = nI 4 → ¬ x2 = nI 5 → Q (.inl (some (.inl (zint (-1))))) (S, d))))) : zwp 11 (5, [some (.inr (some (0, 0))), some (.inl x1), some (.inl x2), none], [.inl y0], (S, d)) Q := by
  refine zwp_br rfl (fun hb => ?_) (fun hb => ?_)
  · show zwp 11 (10, [some (.inr (some (0, 0))), some (.inl x1), some (.inl x2), none], [], (S, d)) Q
    replace h := h.2 (zne_t hb)
    refine zwp_blk 3 (c' := (15, [some (.inr (some (0, 0))), some (.inl x1), some (.inl x2), none], [.inl x1, .inr (some (10, 0))], (S, d))) rfl ?_
    obtain ⟨j1, ej1, lj1, h⟩ := h
    refine zwp_aldx (n := 40) (k := 11) (pc' := 16) (ls := [some (.inr (some (0, 0))), some (.inl x1), some (.inl x2), none]) (r := []) (t := (S, d)) rfl ej1 lj1 (by decide) (zok_11 lj1) ?_
    refine zwp_blk 2 (c' := (18, [some (.inr (some (0, 0))), some (.inl x1), some (.inl x2), some (.inr (some (11, j1)))], [.inl x2], (S, d))) rfl ?_
    by_cases hs0 : x2 = nI 0
    · refine zwp_sw (off := 38) (pc' := 56) (ls := [some (.inr (some (0, 0))), some (.inl x1), some (.inl x2), some (.inr (some (11, j1)))]) (r := []) (t := (S, d)) rfl (by rw [hs0]; decide +kernel) rfl ?_
      replace h := h.1 hs0
      refine zwp_blk 3 (c' := (61, [some (.inr (some (0, 0))), some (.inl x1), some (.inl x2), some (.inr (some (11, j1)))], [.inl x1, .inr (some (4, 0))], (S, d))) rfl ?_
      exact zwp_call rfl h
    by_cases hs1 : x2 = nI 1
    · refine zwp_sw (off := 55) (pc' := 73) (ls := [some (.inr (some (0, 0))), some (.inl x1), some (.inl x2), some (.inr (some (11, j1)))]) (r := []) (t := (S, d)) rfl (by rw [hs1]; decide +kernel) rfl ?_
      replace h := h.2.1 hs1
      refine zwp_blk 2 (c' := (77, [some (.inr (some (0, 0))), some (.inl x1), some (.inl x2), some (.inr (some (11, j1)))], [.inl (S 707 j1 0)], (S, d))) rfl ?_
      exact zwp_end rfl h
    by_cases hs2 : x2 = nI 2
    · refine zwp_sw (off := 60) (pc' := 78) (ls := [some (.inr (some (0, 0))), some (.inl x1), some (.inl x2), some (.inr (some (11, j1)))]) (r := []) (t := (S, d)) rfl (by rw [hs2]; decide +kernel) rfl ?_
      replace h := h.2.2.1 hs2
      refine zwp_blk 2 (c' := (82, [some (.inr (some (0, 0))), some (.inl x1), some (.inl x2), some (.inr (some (11, j1)))], [.inl (S 709 j1 0)], (S, d))) rfl ?_
      exact zwp_end rfl h
    by_cases hs3 : x2 = nI 3
    · refine zwp_sw (off := 65) (pc' := 83) (ls := [some (.inr (some (0, 0))), some (.inl x1), some (.inl x2), some (.inr (some (11, j1)))]) (r := []) (t := (S, d)) rfl (by rw [hs3]; decide +kernel) rfl ?_
      replace h := h.2.2.2.1 hs3
      refine zwp_blk 2 (c' := (87, [some (.inr (some (0, 0))), some (.inl x1), some (.inl x2), some (.inr (some (11, j1)))], [.inl (S 708 j1 0)], (S, d))) rfl ?_
      refine zwp_br rfl (fun hb => ?_) (fun hb => ?_)
      · show zwp 11 (94, [some (.inr (some (0, 0))), some (.inl x1), some (.inl x2), some (.inr (some (11, j1)))], [], (S, d)) Q
        replace h := h.1 (of_decide_eq_true hb)
        refine zwp_blk 1 (c' := (95, [some (.inr (some (0, 0))), some (.inl x1), some (.inl x2), some (.inr (some (11, j1)))], [.inl (nI 0)], (S, d))) rfl ?_
        exact zwp_end rfl h
      · show zwp 11 (90, [some (.inr (some (0, 0))), some (.inl x1), some (.inl x2), some (.inr (some (11, j1)))], [], (S, d)) Q
        replace h := h.2 (of_decide_eq_false hb)
        refine zwp_blk 2 (c' := (95, [some (.inr (some (0, 0))), some (.inl x1), some (.inl x2), some (.inr (some (11, j1)))], [.inl (nI 1)], (S, d))) rfl ?_
        exact zwp_end rfl h
    by_cases hs4 : x2 = nI 4
    · refine zwp_sw (off := 78) (pc' := 96) (ls := [some (.inr (some (0, 0))), some (.inl x1), some (.inl x2), some (.inr (some (11, j1)))]) (r := []) (t := (S, d)) rfl (by rw [hs4]; decide +kernel) rfl ?_
      replace h := h.2.2.2.2.1 hs4
      refine zwp_blk 2 (c' := (100, [some (.inr (some (0, 0))), some (.inl x1), some (.inl x2), some (.inr (some (11, j1)))], [.inl (S 705 j1 0)], (S, d))) rfl ?_
      exact zwp_end rfl h
    by_cases hs5 : x2 = nI 5
    · refine zwp_sw (off := 83) (pc' := 101) (ls := [some (.inr (some (0, 0))), some (.inl x1), some (.inl x2), some (.inr (some (11, j1)))]) (r := []) (t := (S, d)) rfl (by rw [hs5]; decide +kernel) rfl ?_
      replace h := h.2.2.2.2.2.1 hs5
      refine zwp_blk 2 (c' := (105, [some (.inr (some (0, 0))), some (.inl x1), some (.inl x2), some (.inr (some (11, j1)))], [.inl (S 706 j1 0)], (S, d))) rfl ?_
      exact zwp_end rfl h
    refine zwp_sw (off := 88) (pc' := 106) (ls := [some (.inr (some (0, 0))), some (.inl x1), some (.inl x2), some (.inr (some (11, j1)))]) (r := []) (t := (S, d)) rfl (zsw_d (a := 0) (b := 5) rfl rfl (by intro k h1 h2; rcases (show k = 0 ∨ k = 1 ∨ k = 2 ∨ k = 3 ∨ k = 4 ∨ k = 5 by omega) with rfl | rfl | rfl | rfl | rfl | rfl <;> assumption)) rfl ?_
    replace h := h.2.2.2.2.2.2 hs0 hs1 hs2 hs3 hs4 hs5
    refine zwp_blk 1 (c' := (107, [some (.inr (some (0, 0))), some (.inl x1), some (.inl x2), some (.inr (some (11, j1)))], [.inl (zint (-1))], (S, d))) rfl ?_
    exact zwp_end rfl h
  · show zwp 11 (8, [some (.inr (some (0, 0))), some (.inl x1), some (.inl x2), none], [], (S, d)) Q
    replace h := h.1 (zne_f hb)
    refine zwp_blk 1 (c' := (9, [some (.inr (some (0, 0))), some (.inl x1), some (.inl x2), none], [.inl (zint (-1))], (S, d))) rfl ?_
    exact zwp_end rfl h
theorem w11_64 {S : zS} {d : Nat} {Q : zO → zT → Prop} {x1 : Int32} {x2 : Int32} {x3 : Nat} {y0 : Int32} (h : (y0 = 0 → Q (.inl (some (.inl (nI 0)))) (S, d)) ∧ (¬ y0 = 0 → Q (.inl (some (.inl (nI 1)))) (S, d))) : zwp 11 (64, [some (.inr (some (0, 0))), some (.inl x1), some (.inl x2), some (.inr (some (11, x3)))], [.inl y0], (S, d)) Q := by
  refine zwp_br rfl (fun hb => ?_) (fun hb => ?_)
  · show zwp 11 (71, [some (.inr (some (0, 0))), some (.inl x1), some (.inl x2), some (.inr (some (11, x3)))], [], (S, d)) Q
    replace h := h.1 (of_decide_eq_true hb)
    refine zwp_blk 1 (c' := (72, [some (.inr (some (0, 0))), some (.inl x1), some (.inl x2), some (.inr (some (11, x3)))], [.inl (nI 0)], (S, d))) rfl ?_
    exact zwp_end rfl h
  · show zwp 11 (67, [some (.inr (some (0, 0))), some (.inl x1), some (.inl x2), some (.inr (some (11, x3)))], [], (S, d)) Q
    replace h := h.2 (of_decide_eq_false hb)
    refine zwp_blk 2 (c' := (72, [some (.inr (some (0, 0))), some (.inl x1), some (.inl x2), some (.inr (some (11, x3)))], [.inl (nI 1)], (S, d))) rfl ?_
    exact zwp_end rfl h
-- 12 PageKeeper.show
theorem w12_0 {S : zS} {d : Nat} {Q : zO → zT → Prop} {x1 : Int32} {x2 : Int32} (h : zwp 18 (0, zent 18 [.inr (some (0, 0)), .inl x1], [], (S, d)) (zaf 12 5 [some (.inr (some (0, 0))), some (.inl x1), some (.inl x2), none] [] Q)) : zwp 12 (0, [some (.inr (some (0, 0))), some (.inl x1), some (.inl x2), none], [], (S, d)) Q := by
  refine zwp_blk 2 (c' := (2, [some (.inr (some (0, 0))), some (.inl x1), some (.inl x2), none], [.inl x1, .inr (some (0, 0))], (S, d))) rfl ?_
  exact zwp_call rfl h
theorem w12_5 {S : zS} {d : Nat} {Q : zO → zT → Prop} {x1 : Int32} {x2 : Int32} {y0 : Int32} (h : (y0 = 0 → Q (.inl (some (.inl (zint (-1))))) (S, d)) ∧ (¬ y0 = 0 → (0 ≤ x2 → ∃ j1 : Nat, x1 = nI j1 ∧ j1 < 40 ∧ ((x2 = 0 → ((S 768 j1 0) = 0 → Q (.inl (some (.inl (nI 0)))) (S, d)) ∧ (¬ (S 768 j1 0) = 0 → Q (.inl (some (.inl (nI 1)))) (S, d))) ∧ (¬ x2 = 0 → (x2 = (nI 1) → Q (.inl (some (.inl (S 769 j1 0)))) (S, d)) ∧ (¬ x2 = (nI 1) → ((nI 6) ≤ x2 → zwp 67 (0, zent 67 [.inr (some (12, j1)), .inl ((x2 - (nI 2)) - (nI 4))], [], (S, d)) (zaf 12 76 [some (.inr (some (0, 0))), some (.inl x1), some (.inl x2), some (.inr (some (12, j1)))] [] Q)) ∧ (¬ (nI 6) ≤ x2 → zwp 66 (0, zent 66 [.inr (some (12, j1)), .inl (x2 - (nI 2))], [], (S, d)) (zaf 12 64 [some (.inr (some (0, 0))), some (.inl x1), some (.inl x2), some (.inr (some (12, j1)))] [] Q)))))) ∧ (¬ 0 ≤ x2 → Q (.inl (some (.inl (zint (-1))))) (S, d)))) : zwp 12 (5, [some (.inr (some (0, 0))), some (.inl x1), some (.inl x2), none], [.inl y0], (S, d)) Q := by
  refine zwp_br rfl (fun hb => ?_) (fun hb => ?_)
  · show zwp 12 (12, [some (.inr (some (0, 0))), some (.inl x1), some (.inl x2), none], [], (S, d)) Q
    replace h := h.1 (of_decide_eq_true hb)
    refine zwp_blk 1 (c' := (13, [some (.inr (some (0, 0))), some (.inl x1), some (.inl x2), none], [.inl (zint (-1))], (S, d))) rfl ?_
    exact zwp_end rfl h
  · show zwp 12 (8, [some (.inr (some (0, 0))), some (.inl x1), some (.inl x2), none], [], (S, d)) Q
    replace h := h.2 (of_decide_eq_false hb)
    refine zwp_blk 1 (c' := (9, [some (.inr (some (0, 0))), some (.inl x1), some (.inl x2), none], [.inl x2], (S, d))) rfl ?_
    refine zwp_br rfl (fun hb => ?_) (fun hb => ?_)
    · show zwp 12 (14, [some (.inr (some (0, 0))), some (.inl x1), some (.inl x2), none], [], (S, d)) Q
      replace h := h.1 (of_decide_eq_true hb)
      refine zwp_blk 3 (c' := (19, [some (.inr (some (0, 0))), some (.inl x1), some (.inl x2), none], [.inl x1, .inr (some (10, 0))], (S, d))) rfl ?_
      obtain ⟨j1, ej1, lj1, h⟩ := h
      refine zwp_aldx (n := 40) (k := 11) (pc' := 20) (ls := [some (.inr (some (0, 0))), some (.inl x1), some (.inl x2), none]) (r := []) (t := (S, d)) rfl ej1 lj1 (by decide) (zok_11 lj1) ?_
      refine zwp_blk 3 (c' := (25, [some (.inr (some (0, 0))), some (.inl x1), some (.inl x2), some (.inr (some (12, j1)))], [.inl x2], (S, d))) rfl ?_
      refine zwp_br rfl (fun hb => ?_) (fun hb => ?_)
      · show zwp 12 (41, [some (.inr (some (0, 0))), some (.inl x1), some (.inl x2), some (.inr (some (12, j1)))], [], (S, d)) Q
        replace h := h.2 (zne_t hb)
        refine zwp_blk 2 (c' := (43, [some (.inr (some (0, 0))), some (.inl x1), some (.inl x2), some (.inr (some (12, j1)))], [.inl (nI 1), .inl x2], (S, d))) rfl ?_
        refine zwp_br rfl (fun hb => ?_) (fun hb => ?_)
        · show zwp 12 (51, [some (.inr (some (0, 0))), some (.inl x1), some (.inl x2), some (.inr (some (12, j1)))], [], (S, d)) Q
          replace h := h.2 (zne_t hb)
          refine zwp_blk 2 (c' := (54, [some (.inr (some (0, 0))), some (.inl x1), some (.inl x2), some (.inr (some (12, j1)))], [.inl (nI 6), .inl x2], (S, d))) rfl ?_
          refine zwp_br rfl (fun hb => ?_) (fun hb => ?_)
          · show zwp 12 (67, [some (.inr (some (0, 0))), some (.inl x1), some (.inl x2), some (.inr (some (12, j1)))], [], (S, d)) Q
            replace h := h.1 (of_decide_eq_true hb)
            refine zwp_blk 6 (c' := (73, [some (.inr (some (0, 0))), some (.inl x1), some (.inl x2), some (.inr (some (12, j1)))], [.inl ((x2 - (nI 2)) - (nI 4)), .inr (some (12, j1))], (S, d))) rfl ?_
            exact zwp_call rfl h
          · show zwp 12 (57, [some (.inr (some (0, 0))), some (.inl x1), some (.inl x2), some (.inr (some (12, j1)))], [], (S, d)) Q
            replace h := h.2 (of_decide_eq_false hb)
            refine zwp_blk 4 (c' := (61, [some (.inr (some (0, 0))), some (.inl x1), some (.inl x2), some (.inr (some (12, j1)))], [.inl (x2 - (nI 2)), .inr (some (12, j1))], (S, d))) rfl ?_
            exact zwp_call rfl h
        · show zwp 12 (46, [some (.inr (some (0, 0))), some (.inl x1), some (.inl x2), some (.inr (some (12, j1)))], [], (S, d)) Q
          replace h := h.1 (zne_f hb)
          refine zwp_blk 2 (c' := (50, [some (.inr (some (0, 0))), some (.inl x1), some (.inl x2), some (.inr (some (12, j1)))], [.inl (S 769 j1 0)], (S, d))) rfl ?_
          exact zwp_end rfl h
      · show zwp 12 (28, [some (.inr (some (0, 0))), some (.inl x1), some (.inl x2), some (.inr (some (12, j1)))], [], (S, d)) Q
        replace h := h.1 (zne_f hb)
        refine zwp_blk 2 (c' := (32, [some (.inr (some (0, 0))), some (.inl x1), some (.inl x2), some (.inr (some (12, j1)))], [.inl (S 768 j1 0)], (S, d))) rfl ?_
        refine zwp_br rfl (fun hb => ?_) (fun hb => ?_)
        · show zwp 12 (39, [some (.inr (some (0, 0))), some (.inl x1), some (.inl x2), some (.inr (some (12, j1)))], [], (S, d)) Q
          replace h := h.1 (of_decide_eq_true hb)
          refine zwp_blk 1 (c' := (40, [some (.inr (some (0, 0))), some (.inl x1), some (.inl x2), some (.inr (some (12, j1)))], [.inl (nI 0)], (S, d))) rfl ?_
          exact zwp_end rfl h
        · show zwp 12 (35, [some (.inr (some (0, 0))), some (.inl x1), some (.inl x2), some (.inr (some (12, j1)))], [], (S, d)) Q
          replace h := h.2 (of_decide_eq_false hb)
          refine zwp_blk 2 (c' := (40, [some (.inr (some (0, 0))), some (.inl x1), some (.inl x2), some (.inr (some (12, j1)))], [.inl (nI 1)], (S, d))) rfl ?_
          exact zwp_end rfl h
    · show zwp 12 (12, [some (.inr (some (0, 0))), some (.inl x1), some (.inl x2), none], [], (S, d)) Q
      replace h := h.2 (of_decide_eq_false hb)
      refine zwp_blk 1 (c' := (13, [some (.inr (some (0, 0))), some (.inl x1), some (.inl x2), none], [.inl (zint (-1))], (S, d))) rfl ?_
      exact zwp_end rfl h
theorem w12_64 {S : zS} {d : Nat} {Q : zO → zT → Prop} {x1 : Int32} {x2 : Int32} {x3 : Nat} {y0 : Int32} (h : zwp 12 (76, [some (.inr (some (0, 0))), some (.inl x1), some (.inl x2), some (.inr (some (12, x3)))], [.inl y0], (S, d)) Q) : zwp 12 (64, [some (.inr (some (0, 0))), some (.inl x1), some (.inl x2), some (.inr (some (12, x3)))], [.inl y0], (S, d)) Q := by
  refine zwp_blk 1 (c' := (76, [some (.inr (some (0, 0))), some (.inl x1), some (.inl x2), some (.inr (some (12, x3)))], [.inl y0], (S, d))) rfl ?_
  exact h
theorem w12_76 {S : zS} {d : Nat} {Q : zO → zT → Prop} {x1 : Int32} {x2 : Int32} {x3 : Nat} {y0 : Int32} (h : Q (.inl (some (.inl y0))) (S, d)) : zwp 12 (76, [some (.inr (some (0, 0))), some (.inl x1), some (.inl x2), some (.inr (some (12, x3)))], [.inl y0], (S, d)) Q := by
  exact zwp_end rfl h
-- 13 PageKeeper.count
theorem w13_0 {S : zS} {d : Nat} {Q : zO → zT → Prop} {x1 : Int32} (h : (x1 = nI 0 → Q (.inl (some (.inl (S 4 0 0)))) (S, d)) ∧ (x1 = nI 1 → Q (.inl (some (.inl (S 65 0 0)))) (S, d)) ∧ (x1 = nI 2 → Q (.inl (some (.inl (S 66 0 0)))) (S, d)) ∧ (x1 = nI 3 → Q (.inl (some (.inl (S 8 0 0)))) (S, d)) ∧ (x1 = nI 4 → Q (.inl (some (.inl (S 9 0 0)))) (S, d)) ∧ (x1 = nI 5 → Q (.inl (some (.inl (S 10 0 0)))) (S, d)) ∧ (x1 = nI 6 → Q (.inl (some (.inl (S 11 0 0)))) (S, d)) ∧ (x1 = nI 7 → zwp 61 (0, zent 61 [.inr (some (6, 0))], [], (S, d)) (zaf 13 100 [some (.inr (some (0, 0))), some (.inl x1)] [] Q)) ∧ (x1 = nI 8 → Q (.inl (some (.inl (S 6 0 0)))) (S, d)) ∧ (¬ x1 = nI 0 → ¬ x1 = nI 1 → ¬ x1 = nI 2 → ¬ x1 = nI 3 → ¬ x1 = nI 4 → ¬ x1 = nI 5 → ¬ x1 = nI 6 → ¬ x1 = nI 7 → ¬ x1 = nI 8 → Q (.inl (some (.inl (zint (-1))))) (S, d))) : zwp 13 (0, [some (.inr (some (0, 0))), some (.inl x1)], [], (S, d)) Q := by
  refine zwp_blk 1 (c' := (1, [some (.inr (some (0, 0))), some (.inl x1)], [.inl x1], (S, d))) rfl ?_
  by_cases hs0 : x1 = nI 0
  · refine zwp_sw (off := 51) (pc' := 52) (ls := [some (.inr (some (0, 0))), some (.inl x1)]) (r := []) (t := (S, d)) rfl (by rw [hs0]; decide +kernel) rfl ?_
    replace h := h.1 hs0
    refine zwp_blk 2 (c' := (56, [some (.inr (some (0, 0))), some (.inl x1)], [.inl (S 4 0 0)], (S, d))) rfl ?_
    exact zwp_end rfl h
  by_cases hs1 : x1 = nI 1
  · refine zwp_sw (off := 56) (pc' := 57) (ls := [some (.inr (some (0, 0))), some (.inl x1)]) (r := []) (t := (S, d)) rfl (by rw [hs1]; decide +kernel) rfl ?_
    replace h := h.2.1 hs1
    refine zwp_blk 3 (c' := (64, [some (.inr (some (0, 0))), some (.inl x1)], [.inl (S 65 0 0)], (S, d))) rfl ?_
    exact zwp_end rfl h
  by_cases hs2 : x1 = nI 2
  · refine zwp_sw (off := 64) (pc' := 65) (ls := [some (.inr (some (0, 0))), some (.inl x1)]) (r := []) (t := (S, d)) rfl (by rw [hs2]; decide +kernel) rfl ?_
    replace h := h.2.2.1 hs2
    refine zwp_blk 3 (c' := (72, [some (.inr (some (0, 0))), some (.inl x1)], [.inl (S 66 0 0)], (S, d))) rfl ?_
    exact zwp_end rfl h
  by_cases hs3 : x1 = nI 3
  · refine zwp_sw (off := 72) (pc' := 73) (ls := [some (.inr (some (0, 0))), some (.inl x1)]) (r := []) (t := (S, d)) rfl (by rw [hs3]; decide +kernel) rfl ?_
    replace h := h.2.2.2.1 hs3
    refine zwp_blk 2 (c' := (77, [some (.inr (some (0, 0))), some (.inl x1)], [.inl (S 8 0 0)], (S, d))) rfl ?_
    exact zwp_end rfl h
  by_cases hs4 : x1 = nI 4
  · refine zwp_sw (off := 77) (pc' := 78) (ls := [some (.inr (some (0, 0))), some (.inl x1)]) (r := []) (t := (S, d)) rfl (by rw [hs4]; decide +kernel) rfl ?_
    replace h := h.2.2.2.2.1 hs4
    refine zwp_blk 2 (c' := (82, [some (.inr (some (0, 0))), some (.inl x1)], [.inl (S 9 0 0)], (S, d))) rfl ?_
    exact zwp_end rfl h
  by_cases hs5 : x1 = nI 5
  · refine zwp_sw (off := 82) (pc' := 83) (ls := [some (.inr (some (0, 0))), some (.inl x1)]) (r := []) (t := (S, d)) rfl (by rw [hs5]; decide +kernel) rfl ?_
    replace h := h.2.2.2.2.2.1 hs5
    refine zwp_blk 2 (c' := (87, [some (.inr (some (0, 0))), some (.inl x1)], [.inl (S 10 0 0)], (S, d))) rfl ?_
    exact zwp_end rfl h
  by_cases hs6 : x1 = nI 6
  · refine zwp_sw (off := 87) (pc' := 88) (ls := [some (.inr (some (0, 0))), some (.inl x1)]) (r := []) (t := (S, d)) rfl (by rw [hs6]; decide +kernel) rfl ?_
    replace h := h.2.2.2.2.2.2.1 hs6
    refine zwp_blk 2 (c' := (92, [some (.inr (some (0, 0))), some (.inl x1)], [.inl (S 11 0 0)], (S, d))) rfl ?_
    exact zwp_end rfl h
  by_cases hs7 : x1 = nI 7
  · refine zwp_sw (off := 92) (pc' := 93) (ls := [some (.inr (some (0, 0))), some (.inl x1)]) (r := []) (t := (S, d)) rfl (by rw [hs7]; decide +kernel) rfl ?_
    replace h := h.2.2.2.2.2.2.2.1 hs7
    refine zwp_blk 2 (c' := (97, [some (.inr (some (0, 0))), some (.inl x1)], [.inr (some (6, 0))], (S, d))) rfl ?_
    exact zwp_call rfl h
  by_cases hs8 : x1 = nI 8
  · refine zwp_sw (off := 100) (pc' := 101) (ls := [some (.inr (some (0, 0))), some (.inl x1)]) (r := []) (t := (S, d)) rfl (by rw [hs8]; decide +kernel) rfl ?_
    replace h := h.2.2.2.2.2.2.2.2.1 hs8
    refine zwp_blk 2 (c' := (105, [some (.inr (some (0, 0))), some (.inl x1)], [.inl (S 6 0 0)], (S, d))) rfl ?_
    exact zwp_end rfl h
  refine zwp_sw (off := 105) (pc' := 106) (ls := [some (.inr (some (0, 0))), some (.inl x1)]) (r := []) (t := (S, d)) rfl (zsw_d (a := 0) (b := 8) rfl rfl (by intro k h1 h2; rcases (show k = 0 ∨ k = 1 ∨ k = 2 ∨ k = 3 ∨ k = 4 ∨ k = 5 ∨ k = 6 ∨ k = 7 ∨ k = 8 by omega) with rfl | rfl | rfl | rfl | rfl | rfl | rfl | rfl | rfl <;> assumption)) rfl ?_
  replace h := h.2.2.2.2.2.2.2.2.2 hs0 hs1 hs2 hs3 hs4 hs5 hs6 hs7 hs8
  refine zwp_blk 1 (c' := (107, [some (.inr (some (0, 0))), some (.inl x1)], [.inl (zint (-1))], (S, d))) rfl ?_
  exact zwp_end rfl h
theorem w13_100 {S : zS} {d : Nat} {Q : zO → zT → Prop} {x1 : Int32} {y0 : Int32} (h : Q (.inl (some (.inl y0))) (S, d)) : zwp 13 (100, [some (.inr (some (0, 0))), some (.inl x1)], [.inl y0], (S, d)) Q := by
  exact zwp_end rfl h
-- 14 PageKeeper.record
theorem w14_0 {S : zS} {d : Nat} {Q : zO → zT → Prop} {x1 : Int32} {x2 : Int32} (h : (x1 < (nI 1) → Q (.inl (some (.inl (zint (-1))))) (S, d)) ∧ (¬ x1 < (nI 1) → (x1 ≤ (S 65 0 0) → ∃ j1 : Nat, x1 = nI j1 ∧ j1 < 1145 ∧ (1 ≤ j1 ∧ j1 ≤ d) ∧ ((x2 = nI 0 → Q (.inl (some (.inl (S 193 j1 0)))) (S, d)) ∧ (x2 = nI 1 → Q (.inl (some (.inl (S 194 j1 0)))) (S, d)) ∧ (x2 = nI 2 → Q (.inl (some (.inl (S 195 j1 0)))) (S, d)) ∧ (x2 = nI 3 → Q (.inl (some (.inl (S 196 j1 0)))) (S, d)) ∧ (x2 = nI 4 → Q (.inl (some (.inl (S 197 j1 0)))) (S, d)) ∧ (¬ x2 = nI 0 → ¬ x2 = nI 1 → ¬ x2 = nI 2 → ¬ x2 = nI 3 → ¬ x2 = nI 4 → Q (.inl (some (.inl (zint (-1))))) (S, d)))) ∧ (¬ x1 ≤ (S 65 0 0) → Q (.inl (some (.inl (zint (-1))))) (S, d)))) : zwp 14 (0, [some (.inr (some (0, 0))), some (.inl x1), some (.inl x2), none], [], (S, d)) Q := by
  refine zwp_blk 2 (c' := (2, [some (.inr (some (0, 0))), some (.inl x1), some (.inl x2), none], [.inl (nI 1), .inl x1], (S, d))) rfl ?_
  refine zwp_br rfl (fun hb => ?_) (fun hb => ?_)
  · show zwp 14 (16, [some (.inr (some (0, 0))), some (.inl x1), some (.inl x2), none], [], (S, d)) Q
    replace h := h.1 (of_decide_eq_true hb)
    refine zwp_blk 1 (c' := (17, [some (.inr (some (0, 0))), some (.inl x1), some (.inl x2), none], [.inl (zint (-1))], (S, d))) rfl ?_
    exact zwp_end rfl h
  · show zwp 14 (5, [some (.inr (some (0, 0))), some (.inl x1), some (.inl x2), none], [], (S, d)) Q
    replace h := h.2 (of_decide_eq_false hb)
    refine zwp_blk 4 (c' := (13, [some (.inr (some (0, 0))), some (.inl x1), some (.inl x2), none], [.inl (S 65 0 0), .inl x1], (S, d))) rfl ?_
    refine zwp_br rfl (fun hb => ?_) (fun hb => ?_)
    · show zwp 14 (18, [some (.inr (some (0, 0))), some (.inl x1), some (.inl x2), none], [], (S, d)) Q
      replace h := h.1 (of_decide_eq_true hb)
      refine zwp_blk 4 (c' := (26, [some (.inr (some (0, 0))), some (.inl x1), some (.inl x2), none], [.inl x1, .inr (some (2, 0))], (S, d))) rfl ?_
      obtain ⟨j1, ej1, lj1, h⟩ := h
      refine zwp_aldx (n := 1145) (k := 3) (pc' := 27) (ls := [some (.inr (some (0, 0))), some (.inl x1), some (.inl x2), none]) (r := []) (t := (S, d)) rfl ej1 lj1 (by decide) (zok_3 h.1) ?_
      replace h := h.2
      refine zwp_blk 2 (c' := (29, [some (.inr (some (0, 0))), some (.inl x1), some (.inl x2), some (.inr (some (3, j1)))], [.inl x2], (S, d))) rfl ?_
      by_cases hs0 : x2 = nI 0
      · refine zwp_sw (off := 35) (pc' := 64) (ls := [some (.inr (some (0, 0))), some (.inl x1), some (.inl x2), some (.inr (some (3, j1)))]) (r := []) (t := (S, d)) rfl (by rw [hs0]; decide +kernel) rfl ?_
        replace h := h.1 hs0
        refine zwp_blk 2 (c' := (68, [some (.inr (some (0, 0))), some (.inl x1), some (.inl x2), some (.inr (some (3, j1)))], [.inl (S 193 j1 0)], (S, d))) rfl ?_
        exact zwp_end rfl h
      by_cases hs1 : x2 = nI 1
      · refine zwp_sw (off := 40) (pc' := 69) (ls := [some (.inr (some (0, 0))), some (.inl x1), some (.inl x2), some (.inr (some (3, j1)))]) (r := []) (t := (S, d)) rfl (by rw [hs1]; decide +kernel) rfl ?_
        replace h := h.2.1 hs1
        refine zwp_blk 2 (c' := (73, [some (.inr (some (0, 0))), some (.inl x1), some (.inl x2), some (.inr (some (3, j1)))], [.inl (S 194 j1 0)], (S, d))) rfl ?_
        exact zwp_end rfl h
      by_cases hs2 : x2 = nI 2
      · refine zwp_sw (off := 45) (pc' := 74) (ls := [some (.inr (some (0, 0))), some (.inl x1), some (.inl x2), some (.inr (some (3, j1)))]) (r := []) (t := (S, d)) rfl (by rw [hs2]; decide +kernel) rfl ?_
        replace h := h.2.2.1 hs2
        refine zwp_blk 2 (c' := (78, [some (.inr (some (0, 0))), some (.inl x1), some (.inl x2), some (.inr (some (3, j1)))], [.inl (S 195 j1 0)], (S, d))) rfl ?_
        exact zwp_end rfl h
      by_cases hs3 : x2 = nI 3
      · refine zwp_sw (off := 50) (pc' := 79) (ls := [some (.inr (some (0, 0))), some (.inl x1), some (.inl x2), some (.inr (some (3, j1)))]) (r := []) (t := (S, d)) rfl (by rw [hs3]; decide +kernel) rfl ?_
        replace h := h.2.2.2.1 hs3
        refine zwp_blk 2 (c' := (83, [some (.inr (some (0, 0))), some (.inl x1), some (.inl x2), some (.inr (some (3, j1)))], [.inl (S 196 j1 0)], (S, d))) rfl ?_
        exact zwp_end rfl h
      by_cases hs4 : x2 = nI 4
      · refine zwp_sw (off := 55) (pc' := 84) (ls := [some (.inr (some (0, 0))), some (.inl x1), some (.inl x2), some (.inr (some (3, j1)))]) (r := []) (t := (S, d)) rfl (by rw [hs4]; decide +kernel) rfl ?_
        replace h := h.2.2.2.2.1 hs4
        refine zwp_blk 2 (c' := (88, [some (.inr (some (0, 0))), some (.inl x1), some (.inl x2), some (.inr (some (3, j1)))], [.inl (S 197 j1 0)], (S, d))) rfl ?_
        exact zwp_end rfl h
      refine zwp_sw (off := 60) (pc' := 89) (ls := [some (.inr (some (0, 0))), some (.inl x1), some (.inl x2), some (.inr (some (3, j1)))]) (r := []) (t := (S, d)) rfl (zsw_d (a := 0) (b := 4) rfl rfl (by intro k h1 h2; rcases (show k = 0 ∨ k = 1 ∨ k = 2 ∨ k = 3 ∨ k = 4 by omega) with rfl | rfl | rfl | rfl | rfl <;> assumption)) rfl ?_
      replace h := h.2.2.2.2.2 hs0 hs1 hs2 hs3 hs4
      refine zwp_blk 1 (c' := (90, [some (.inr (some (0, 0))), some (.inl x1), some (.inl x2), some (.inr (some (3, j1)))], [.inl (zint (-1))], (S, d))) rfl ?_
      exact zwp_end rfl h
    · show zwp 14 (16, [some (.inr (some (0, 0))), some (.inl x1), some (.inl x2), none], [], (S, d)) Q
      replace h := h.2 (of_decide_eq_false hb)
      refine zwp_blk 1 (c' := (17, [some (.inr (some (0, 0))), some (.inl x1), some (.inl x2), none], [.inl (zint (-1))], (S, d))) rfl ?_
      exact zwp_end rfl h
-- 15 PageKeeper.lock
theorem w15_0 {S : zS} {d : Nat} {Q : zO → zT → Prop} {x1 : Int32} {x2 : Int32} (h : zwp 16 (0, zent 16 [.inl x1], [], (S, d)) (zaf 15 4 [some (.inr (some (0, 0))), some (.inl x1), some (.inl x2)] [] Q)) : zwp 15 (0, [some (.inr (some (0, 0))), some (.inl x1), some (.inl x2)], [], (S, d)) Q := by
  refine zwp_blk 1 (c' := (1, [some (.inr (some (0, 0))), some (.inl x1), some (.inl x2)], [.inl x1], (S, d))) rfl ?_
  exact zwp_call rfl h
theorem w15_4 {S : zS} {d : Nat} {Q : zO → zT → Prop} {x1 : Int32} {x2 : Int32} {y0 : Int32} (h : (y0 = 0 → Q (.inl (some (.inl (zint (-1))))) (S, d)) ∧ (¬ y0 = 0 → zwp 17 (0, zent 17 [.inl x2], [], (S, d)) (zaf 15 11 [some (.inr (some (0, 0))), some (.inl x1), some (.inl x2)] [] Q))) : zwp 15 (4, [some (.inr (some (0, 0))), some (.inl x1), some (.inl x2)], [.inl y0], (S, d)) Q := by
  refine zwp_br rfl (fun hb => ?_) (fun hb => ?_)
  · show zwp 15 (23, [some (.inr (some (0, 0))), some (.inl x1), some (.inl x2)], [], (S, d)) Q
    replace h := h.1 (of_decide_eq_true hb)
    refine zwp_blk 1 (c' := (24, [some (.inr (some (0, 0))), some (.inl x1), some (.inl x2)], [.inl (zint (-1))], (S, d))) rfl ?_
    exact zwp_end rfl h
  · show zwp 15 (7, [some (.inr (some (0, 0))), some (.inl x1), some (.inl x2)], [], (S, d)) Q
    replace h := h.2 (of_decide_eq_false hb)
    refine zwp_blk 1 (c' := (8, [some (.inr (some (0, 0))), some (.inl x1), some (.inl x2)], [.inl x2], (S, d))) rfl ?_
    exact zwp_call rfl h
theorem w15_11 {S : zS} {d : Nat} {Q : zO → zT → Prop} {x1 : Int32} {x2 : Int32} {y0 : Int32} (h : (y0 = 0 → Q (.inl (some (.inl (zint (-1))))) (S, d)) ∧ (¬ y0 = 0 → ∃ j1 : Nat, x1 = nI j1 ∧ j1 < 4 ∧ (((S 960 0 j1) = 0 → Q (.inl (some (.inl (zint (-1))))) (S, d)) ∧ (¬ (S 960 0 j1) = 0 → ∃ j2 : Nat, x1 = nI j2 ∧ j2 < 4 ∧ (∃ j3 : Nat, x2 = nI j3 ∧ j3 < 40 ∧ (Q (.inl (some (.inl (S 512 j2 j3)))) (S, d))))))) : zwp 15 (11, [some (.inr (some (0, 0))), some (.inl x1), some (.inl x2)], [.inl y0], (S, d)) Q := by
  refine zwp_br rfl (fun hb => ?_) (fun hb => ?_)
  · show zwp 15 (23, [some (.inr (some (0, 0))), some (.inl x1), some (.inl x2)], [], (S, d)) Q
    replace h := h.1 (of_decide_eq_true hb)
    refine zwp_blk 1 (c' := (24, [some (.inr (some (0, 0))), some (.inl x1), some (.inl x2)], [.inl (zint (-1))], (S, d))) rfl ?_
    exact zwp_end rfl h
  · show zwp 15 (14, [some (.inr (some (0, 0))), some (.inl x1), some (.inl x2)], [], (S, d)) Q
    replace h := h.2 (of_decide_eq_false hb)
    refine zwp_blk 3 (c' := (19, [some (.inr (some (0, 0))), some (.inl x1), some (.inl x2)], [.inl x1, .inr (some (15, 0))], (S, d))) rfl ?_
    obtain ⟨j1, ej1, lj1, h⟩ := h
    refine zwp_ldx (n := 4) (cd := 960) (i := 0) (pc' := 20) (ls := [some (.inr (some (0, 0))), some (.inl x1), some (.inl x2)]) (r := []) (t := (S, d)) rfl ej1 lj1 (by decide) ?_
    refine zwp_br rfl (fun hb => ?_) (fun hb => ?_)
    · show zwp 15 (25, [some (.inr (some (0, 0))), some (.inl x1), some (.inl x2)], [], (S, d)) Q
      replace h := h.2 (zne_t hb)
      refine zwp_blk 4 (c' := (33, [some (.inr (some (0, 0))), some (.inl x1), some (.inl x2)], [.inl x1, .inr (some (7, 0))], (S, d))) rfl ?_
      obtain ⟨j2, ej2, lj2, h⟩ := h
      refine zwp_aldx (n := 4) (k := 8) (pc' := 34) (ls := [some (.inr (some (0, 0))), some (.inl x1), some (.inl x2)]) (r := []) (t := (S, d)) rfl ej2 lj2 (by decide) (zok_8 lj2) ?_
      refine zwp_blk 1 (c' := (35, [some (.inr (some (0, 0))), some (.inl x1), some (.inl x2)], [.inl x2, .inr (some (8, j2))], (S, d))) rfl ?_
      obtain ⟨j3, ej3, lj3, h⟩ := h
      refine zwp_ldx (n := 40) (cd := 512) (i := j2) (pc' := 36) (ls := [some (.inr (some (0, 0))), some (.inl x1), some (.inl x2)]) (r := []) (t := (S, d)) rfl ej3 lj3 (by decide) ?_
      exact zwp_end rfl h
    · show zwp 15 (23, [some (.inr (some (0, 0))), some (.inl x1), some (.inl x2)], [], (S, d)) Q
      replace h := h.1 (zne_f hb)
      refine zwp_blk 1 (c' := (24, [some (.inr (some (0, 0))), some (.inl x1), some (.inl x2)], [.inl (zint (-1))], (S, d))) rfl ?_
      exact zwp_end rfl h
-- 16 PageKeeper.isPlace
theorem w16_0 {S : zS} {d : Nat} {Q : zO → zT → Prop} {x0 : Int32} (h : (x0 < 0 → Q (.inl (some (.inl (nI 0)))) (S, d)) ∧ (¬ x0 < 0 → ((nI 4) ≤ x0 → Q (.inl (some (.inl (nI 0)))) (S, d)) ∧ (¬ (nI 4) ≤ x0 → Q (.inl (some (.inl (nI 1)))) (S, d)))) : zwp 16 (0, [some (.inl x0)], [], (S, d)) Q := by
  refine zwp_blk 1 (c' := (1, [some (.inl x0)], [.inl x0], (S, d))) rfl ?_
  refine zwp_br rfl (fun hb => ?_) (fun hb => ?_)
  · show zwp 16 (13, [some (.inl x0)], [], (S, d)) Q
    replace h := h.1 (of_decide_eq_true hb)
    refine zwp_blk 1 (c' := (14, [some (.inl x0)], [.inl (nI 0)], (S, d))) rfl ?_
    exact zwp_ret01 (x := nI 0) rfl (by decide) h
  · show zwp 16 (4, [some (.inl x0)], [], (S, d)) Q
    replace h := h.2 (of_decide_eq_false hb)
    refine zwp_blk 2 (c' := (6, [some (.inl x0)], [.inl (nI 4), .inl x0], (S, d))) rfl ?_
    refine zwp_br rfl (fun hb => ?_) (fun hb => ?_)
    · show zwp 16 (13, [some (.inl x0)], [], (S, d)) Q
      replace h := h.1 (of_decide_eq_true hb)
      refine zwp_blk 1 (c' := (14, [some (.inl x0)], [.inl (nI 0)], (S, d))) rfl ?_
      exact zwp_ret01 (x := nI 0) rfl (by decide) h
    · show zwp 16 (9, [some (.inl x0)], [], (S, d)) Q
      replace h := h.2 (of_decide_eq_false hb)
      refine zwp_blk 2 (c' := (14, [some (.inl x0)], [.inl (nI 1)], (S, d))) rfl ?_
      exact zwp_ret01 (x := nI 1) rfl (by decide) h
-- 17 PageKeeper.isKey
theorem w17_0 {S : zS} {d : Nat} {Q : zO → zT → Prop} {x0 : Int32} (h : (x0 < 0 → Q (.inl (some (.inl (nI 0)))) (S, d)) ∧ (¬ x0 < 0 → ((nI 40) ≤ x0 → Q (.inl (some (.inl (nI 0)))) (S, d)) ∧ (¬ (nI 40) ≤ x0 → Q (.inl (some (.inl (nI 1)))) (S, d)))) : zwp 17 (0, [some (.inl x0)], [], (S, d)) Q := by
  refine zwp_blk 1 (c' := (1, [some (.inl x0)], [.inl x0], (S, d))) rfl ?_
  refine zwp_br rfl (fun hb => ?_) (fun hb => ?_)
  · show zwp 17 (14, [some (.inl x0)], [], (S, d)) Q
    replace h := h.1 (of_decide_eq_true hb)
    refine zwp_blk 1 (c' := (15, [some (.inl x0)], [.inl (nI 0)], (S, d))) rfl ?_
    exact zwp_ret01 (x := nI 0) rfl (by decide) h
  · show zwp 17 (4, [some (.inl x0)], [], (S, d)) Q
    replace h := h.2 (of_decide_eq_false hb)
    refine zwp_blk 2 (c' := (7, [some (.inl x0)], [.inl (nI 40), .inl x0], (S, d))) rfl ?_
    refine zwp_br rfl (fun hb => ?_) (fun hb => ?_)
    · show zwp 17 (14, [some (.inl x0)], [], (S, d)) Q
      replace h := h.1 (of_decide_eq_true hb)
      refine zwp_blk 1 (c' := (15, [some (.inl x0)], [.inl (nI 0)], (S, d))) rfl ?_
      exact zwp_ret01 (x := nI 0) rfl (by decide) h
    · show zwp 17 (10, [some (.inl x0)], [], (S, d)) Q
      replace h := h.2 (of_decide_eq_false hb)
      refine zwp_blk 2 (c' := (15, [some (.inl x0)], [.inl (nI 1)], (S, d))) rfl ?_
      exact zwp_ret01 (x := nI 1) rfl (by decide) h
-- 18 PageKeeper.isMade
theorem w18_0 {S : zS} {d : Nat} {Q : zO → zT → Prop} {x1 : Int32} (h : (x1 < 0 → Q (.inl (some (.inl (nI 0)))) (S, d)) ∧ (¬ x1 < 0 → ((S 4 0 0) ≤ x1 → Q (.inl (some (.inl (nI 0)))) (S, d)) ∧ (¬ (S 4 0 0) ≤ x1 → Q (.inl (some (.inl (nI 1)))) (S, d)))) : zwp 18 (0, [some (.inr (some (0, 0))), some (.inl x1)], [], (S, d)) Q := by
  refine zwp_blk 1 (c' := (1, [some (.inr (some (0, 0))), some (.inl x1)], [.inl x1], (S, d))) rfl ?_
  refine zwp_br rfl (fun hb => ?_) (fun hb => ?_)
  · show zwp 18 (16, [some (.inr (some (0, 0))), some (.inl x1)], [], (S, d)) Q
    replace h := h.1 (of_decide_eq_true hb)
    refine zwp_blk 1 (c' := (17, [some (.inr (some (0, 0))), some (.inl x1)], [.inl (nI 0)], (S, d))) rfl ?_
    exact zwp_ret01 (x := nI 0) rfl (by decide) h
  · show zwp 18 (4, [some (.inr (some (0, 0))), some (.inl x1)], [], (S, d)) Q
    replace h := h.2 (of_decide_eq_false hb)
    refine zwp_blk 3 (c' := (9, [some (.inr (some (0, 0))), some (.inl x1)], [.inl (S 4 0 0), .inl x1], (S, d))) rfl ?_
    refine zwp_br rfl (fun hb => ?_) (fun hb => ?_)
    · show zwp 18 (16, [some (.inr (some (0, 0))), some (.inl x1)], [], (S, d)) Q
      replace h := h.1 (of_decide_eq_true hb)
      refine zwp_blk 1 (c' := (17, [some (.inr (some (0, 0))), some (.inl x1)], [.inl (nI 0)], (S, d))) rfl ?_
      exact zwp_ret01 (x := nI 0) rfl (by decide) h
    · show zwp 18 (12, [some (.inr (some (0, 0))), some (.inl x1)], [], (S, d)) Q
      replace h := h.2 (of_decide_eq_false hb)
      refine zwp_blk 2 (c' := (17, [some (.inr (some (0, 0))), some (.inl x1)], [.inl (nI 1)], (S, d))) rfl ?_
      exact zwp_ret01 (x := nI 1) rfl (by decide) h
-- 19 PageKeeper.checkPlace
theorem w19_0 {S : zS} {d : Nat} {Q : zO → zT → Prop} {x0 : Int32} (h : zwp 16 (0, zent 16 [.inl x0], [], (S, d)) (zaf 19 4 [some (.inl x0)] [] Q)) : zwp 19 (0, [some (.inl x0)], [], (S, d)) Q := by
  refine zwp_blk 1 (c' := (1, [some (.inl x0)], [.inl x0], (S, d))) rfl ?_
  exact zwp_call rfl h
theorem w19_4 {S : zS} {d : Nat} {Q : zO → zT → Prop} {x0 : Int32} {y0 : Int32} (h : (y0 = 0 → Q (.inr 1) (S, d)) ∧ (¬ y0 = 0 → Q (.inl none) (S, d))) : zwp 19 (4, [some (.inl x0)], [.inl y0], (S, d)) Q := by
  refine zwp_br rfl (fun hb => ?_) (fun hb => ?_)
  · show zwp 19 (15, [some (.inl x0)], [], (S, d)) Q
    replace h := h.2 (zne_t hb)
    exact zwp_end rfl h
  · show zwp 19 (7, [some (.inl x0)], [], (S, d)) Q
    replace h := h.1 (zne_f hb)
    exact zwp_end rfl h
-- 20 PageKeeper.checkPlaceAndKey
theorem w20_0 {S : zS} {d : Nat} {Q : zO → zT → Prop} {x0 : Int32} {x1 : Int32} (h : zwp 16 (0, zent 16 [.inl x0], [], (S, d)) (zaf 20 4 [some (.inl x0), some (.inl x1)] [] Q)) : zwp 20 (0, [some (.inl x0), some (.inl x1)], [], (S, d)) Q := by
  refine zwp_blk 1 (c' := (1, [some (.inl x0), some (.inl x1)], [.inl x0], (S, d))) rfl ?_
  exact zwp_call rfl h
theorem w20_4 {S : zS} {d : Nat} {Q : zO → zT → Prop} {x0 : Int32} {x1 : Int32} {y0 : Int32} (h : (y0 = 0 → Q (.inr 1) (S, d)) ∧ (¬ y0 = 0 → zwp 17 (0, zent 17 [.inl x1], [], (S, d)) (zaf 20 11 [some (.inl x0), some (.inl x1)] [] Q))) : zwp 20 (4, [some (.inl x0), some (.inl x1)], [.inl y0], (S, d)) Q := by
  refine zwp_br rfl (fun hb => ?_) (fun hb => ?_)
  · show zwp 20 (14, [some (.inl x0), some (.inl x1)], [], (S, d)) Q
    replace h := h.1 (of_decide_eq_true hb)
    exact zwp_end rfl h
  · show zwp 20 (7, [some (.inl x0), some (.inl x1)], [], (S, d)) Q
    replace h := h.2 (of_decide_eq_false hb)
    refine zwp_blk 1 (c' := (8, [some (.inl x0), some (.inl x1)], [.inl x1], (S, d))) rfl ?_
    exact zwp_call rfl h
theorem w20_11 {S : zS} {d : Nat} {Q : zO → zT → Prop} {x0 : Int32} {x1 : Int32} {y0 : Int32} (h : (y0 = 0 → Q (.inr 1) (S, d)) ∧ (¬ y0 = 0 → Q (.inl none) (S, d))) : zwp 20 (11, [some (.inl x0), some (.inl x1)], [.inl y0], (S, d)) Q := by
  refine zwp_br rfl (fun hb => ?_) (fun hb => ?_)
  · show zwp 20 (22, [some (.inl x0), some (.inl x1)], [], (S, d)) Q
    replace h := h.2 (zne_t hb)
    exact zwp_end rfl h
  · show zwp 20 (14, [some (.inl x0), some (.inl x1)], [], (S, d)) Q
    replace h := h.1 (zne_f hb)
    exact zwp_end rfl h
-- 21 PageKeeper.checkOpen
theorem w21_0 {S : zS} {d : Nat} {Q : zO → zT → Prop} {x1 : Int32} (h : ∃ j1 : Nat, x1 = nI j1 ∧ j1 < 4 ∧ (((S 960 0 j1) = 0 → Q (.inr 2) (S, d)) ∧ (¬ (S 960 0 j1) = 0 → Q (.inl none) (S, d)))) : zwp 21 (0, [some (.inr (some (0, 0))), some (.inl x1)], [], (S, d)) Q := by
  refine zwp_blk 3 (c' := (5, [some (.inr (some (0, 0))), some (.inl x1)], [.inl x1, .inr (some (15, 0))], (S, d))) rfl ?_
  obtain ⟨j1, ej1, lj1, h⟩ := h
  refine zwp_ldx (n := 4) (cd := 960) (i := 0) (pc' := 6) (ls := [some (.inr (some (0, 0))), some (.inl x1)]) (r := []) (t := (S, d)) rfl ej1 lj1 (by decide) ?_
  refine zwp_br rfl (fun hb => ?_) (fun hb => ?_)
  · show zwp 21 (17, [some (.inr (some (0, 0))), some (.inl x1)], [], (S, d)) Q
    replace h := h.2 (zne_t hb)
    exact zwp_end rfl h
  · show zwp 21 (9, [some (.inr (some (0, 0))), some (.inl x1)], [], (S, d)) Q
    replace h := h.1 (zne_f hb)
    exact zwp_end rfl h
-- 22 PageKeeper.isWornOut
theorem w22_0 {S : zS} {d : Nat} {Q : zO → zT → Prop}  (h : ((S 7 0 0) = (nI 512) → Q (.inl (some (.inl (nI 1)))) (S, d)) ∧ (¬ (S 7 0 0) = (nI 512) → Q (.inl (some (.inl (nI 0)))) (zu S 7 0 0 ((S 7 0 0) + (nI 1)), d))) : zwp 22 (0, [some (.inr (some (0, 0)))], [], (S, d)) Q := by
  refine zwp_blk 3 (c' := (7, [some (.inr (some (0, 0)))], [.inl (nI 512), .inl (S 7 0 0)], (S, d))) rfl ?_
  refine zwp_br rfl (fun hb => ?_) (fun hb => ?_)
  · show zwp 22 (12, [some (.inr (some (0, 0)))], [], (S, d)) Q
    replace h := h.2 (zne_t hb)
    refine zwp_blk 7 (c' := (23, [some (.inr (some (0, 0)))], [.inl (nI 0)], (zu S 7 0 0 ((S 7 0 0) + (nI 1)), d))) rfl ?_
    exact zwp_ret01 (x := nI 0) rfl (by decide) h
  · show zwp 22 (10, [some (.inr (some (0, 0)))], [], (S, d)) Q
    replace h := h.1 (zne_f hb)
    refine zwp_blk 1 (c' := (11, [some (.inr (some (0, 0)))], [.inl (nI 1)], (S, d))) rfl ?_
    exact zwp_ret01 (x := nI 1) rfl (by decide) h
-- 23 PageKeeper.close
theorem w23_0 {S : zS} {d : Nat} {Q : zO → zT → Prop} {x1 : Int32} (h : ∃ j1 : Nat, x1 = nI j1 ∧ j1 < 4 ∧ (zwp 57 (0, zent 57 [.inr (some (6, 0)), .inl x1], [], (zu S 960 0 j1 ((nI 0)), d)) (zaf 23 15 [some (.inr (some (0, 0))), some (.inl x1)] [] Q))) : zwp 23 (0, [some (.inr (some (0, 0))), some (.inl x1)], [], (S, d)) Q := by
  refine zwp_blk 4 (c' := (6, [some (.inr (some (0, 0))), some (.inl x1)], [.inl (nI 0), .inl x1, .inr (some (15, 0))], (S, d))) rfl ?_
  obtain ⟨j1, ej1, lj1, h⟩ := h
  refine zwp_stx (n := 4) (cd := 960) (i := 0) (v := (nI 0)) (pc' := 7) (ls := [some (.inr (some (0, 0))), some (.inl x1)]) (r := []) (t := (S, d)) rfl ej1 lj1 (by decide) ?_
  refine zwp_blk 3 (c' := (12, [some (.inr (some (0, 0))), some (.inl x1)], [.inl x1, .inr (some (6, 0))], (zu S 960 0 j1 ((nI 0)), d))) rfl ?_
  exact zwp_call rfl h
theorem w23_15 {S : zS} {d : Nat} {Q : zO → zT → Prop} {x1 : Int32} (h : Q (.inl none) (S, d)) : zwp 23 (15, [some (.inr (some (0, 0))), some (.inl x1)], [], (S, d)) Q := by
  exact zwp_end rfl h
-- 24 PageKeeper.rollBack
theorem w24_0 {S : zS} {d : Nat} {Q : zO → zT → Prop} {x1 : Int32} (h : zwp 24 (10, [some (.inr (some (0, 0))), some (.inl x1), some (.inl (nI 0)), some (.inl (S 65 0 0)), none], [], (S, d)) Q) : zwp 24 (0, [some (.inr (some (0, 0))), some (.inl x1), none, none, none], [], (S, d)) Q := by
  refine zwp_blk 6 (c' := (10, [some (.inr (some (0, 0))), some (.inl x1), some (.inl (nI 0)), some (.inl (S 65 0 0)), none], [], (S, d))) rfl ?_
  exact h
theorem w24_10 {S : zS} {d : Nat} {Q : zO → zT → Prop} {x1 : Int32} {x2 : Int32} {x3 : Int32} {x4 : Option zV} (h : (x3 ≤ 0 → zwp 39 (0, zent 39 [.inr (some (1, 0)), .inl (nI 7), .inl (zint (-1)), .inl (zint (-1)), .inl x1], [], (S, d)) (zaf 24 106 [some (.inr (some (0, 0))), some (.inl x1), some (.inl x2), some (.inl x3), x4] [] Q)) ∧ (¬ x3 ≤ 0 → ∃ j1 : Nat, x3 = nI j1 ∧ j1 < 1145 ∧ (1 ≤ j1 ∧ j1 ≤ d) ∧ (((S 196 j1 0) = x1 → zwp 47 (0, zent 47 [.inr (some (3, j1))], [], (S, d)) (zaf 24 39 [some (.inr (some (0, 0))), some (.inl x1), some (.inl x2), some (.inl x3), some (.inr (some (3, j1)))] [] Q)) ∧ (¬ (S 196 j1 0) = x1 → zwp 24 (10, [some (.inr (some (0, 0))), some (.inl x1), some (.inl x2), some (.inl (x3 + zint (-1))), some (.inr (some (3, j1)))], [], (S, d)) Q)))) : zwp 24 (10, [some (.inr (some (0, 0))), some (.inl x1), some (.inl x2), some (.inl x3), x4], [], (S, d)) Q := by
  refine zwp_blk 1 (c' := (11, [some (.inr (some (0, 0))), some (.inl x1), some (.inl x2), some (.inl x3), x4], [.inl x3], (S, d))) rfl ?_
  refine zwp_br rfl (fun hb => ?_) (fun hb => ?_)
  · show zwp 24 (94, [some (.inr (some (0, 0))), some (.inl x1), some (.inl x2), some (.inl x3), x4], [], (S, d)) Q
    replace h := h.1 (of_decide_eq_true hb)
    refine zwp_blk 6 (c' := (103, [some (.inr (some (0, 0))), some (.inl x1), some (.inl x2), some (.inl x3), x4], [.inl x1, .inl (zint (-1)), .inl (zint (-1)), .inl (nI 7), .inr (some (1, 0))], (S, d))) rfl ?_
    exact zwp_call rfl h
  · show zwp 24 (14, [some (.inr (some (0, 0))), some (.inl x1), some (.inl x2), some (.inl x3), x4], [], (S, d)) Q
    replace h := h.2 (of_decide_eq_false hb)
    refine zwp_blk 4 (c' := (22, [some (.inr (some (0, 0))), some (.inl x1), some (.inl x2), some (.inl x3), x4], [.inl x3, .inr (some (2, 0))], (S, d))) rfl ?_
    obtain ⟨j1, ej1, lj1, h⟩ := h
    refine zwp_aldx (n := 1145) (k := 3) (pc' := 23) (ls := [some (.inr (some (0, 0))), some (.inl x1), some (.inl x2), some (.inl x3), x4]) (r := []) (t := (S, d)) rfl ej1 lj1 (by decide) (zok_3 h.1) ?_
    replace h := h.2
    refine zwp_blk 4 (c' := (31, [some (.inr (some (0, 0))), some (.inl x1), some (.inl x2), some (.inl x3), some (.inr (some (3, j1)))], [.inl x1, .inl (S 196 j1 0)], (S, d))) rfl ?_
    refine zwp_br rfl (fun hb => ?_) (fun hb => ?_)
    · show zwp 24 (88, [some (.inr (some (0, 0))), some (.inl x1), some (.inl x2), some (.inl x3), some (.inr (some (3, j1)))], [], (S, d)) Q
      replace h := h.2 (zne_t hb)
      refine zwp_blk 2 (c' := (10, [some (.inr (some (0, 0))), some (.inl x1), some (.inl x2), some (.inl (x3 + zint (-1))), some (.inr (some (3, j1)))], [], (S, d))) rfl ?_
      exact h
    · show zwp 24 (34, [some (.inr (some (0, 0))), some (.inl x1), some (.inl x2), some (.inl x3), some (.inr (some (3, j1)))], [], (S, d)) Q
      replace h := h.1 (zne_f hb)
      refine zwp_blk 1 (c' := (36, [some (.inr (some (0, 0))), some (.inl x1), some (.inl x2), some (.inl x3), some (.inr (some (3, j1)))], [.inr (some (3, j1))], (S, d))) rfl ?_
      exact zwp_call rfl h
theorem w24_39 {S : zS} {d : Nat} {Q : zO → zT → Prop} {x1 : Int32} {x2 : Int32} {x3 : Int32} {x4 : Nat} {y0 : Int32} (h : (y0 = 0 → zwp 24 (10, [some (.inr (some (0, 0))), some (.inl x1), some (.inl x2), some (.inl (x3 + zint (-1))), some (.inr (some (3, x4)))], [], (S, d)) Q) ∧ (¬ y0 = 0 → ((S 206 x4 0) = 0 → zwp 26 (0, zent 26 [.inr (some (0, 0)), .inl x1, .inl (S 200 x4 0), .inl x3], [], (S, d)) (zaf 24 84 [some (.inr (some (0, 0))), some (.inl x1), some (.inl x2), some (.inl x3), some (.inr (some (3, x4)))] [] Q)) ∧ (¬ (S 206 x4 0) = 0 → zwp 25 (0, zent 25 [.inr (some (0, 0)), .inl x1, .inl (S 200 x4 0), .inl (S 207 x4 0), .inl x3], [], (S, d)) (zaf 24 69 [some (.inr (some (0, 0))), some (.inl x1), some (.inl x2), some (.inl x3), some (.inr (some (3, x4)))] [] Q)))) : zwp 24 (39, [some (.inr (some (0, 0))), some (.inl x1), some (.inl x2), some (.inl x3), some (.inr (some (3, x4)))], [.inl y0], (S, d)) Q := by
  refine zwp_br rfl (fun hb => ?_) (fun hb => ?_)
  · show zwp 24 (45, [some (.inr (some (0, 0))), some (.inl x1), some (.inl x2), some (.inl x3), some (.inr (some (3, x4)))], [], (S, d)) Q
    replace h := h.2 (zne_t hb)
    refine zwp_blk 2 (c' := (50, [some (.inr (some (0, 0))), some (.inl x1), some (.inl x2), some (.inl x3), some (.inr (some (3, x4)))], [.inl (S 206 x4 0)], (S, d))) rfl ?_
    refine zwp_br rfl (fun hb => ?_) (fun hb => ?_)
    · show zwp 24 (73, [some (.inr (some (0, 0))), some (.inl x1), some (.inl x2), some (.inl x3), some (.inr (some (3, x4)))], [], (S, d)) Q
      replace h := h.1 (of_decide_eq_true hb)
      refine zwp_blk 5 (c' := (81, [some (.inr (some (0, 0))), some (.inl x1), some (.inl x2), some (.inl x3), some (.inr (some (3, x4)))], [.inl x3, .inl (S 200 x4 0), .inl x1, .inr (some (0, 0))], (S, d))) rfl ?_
      exact zwp_call rfl h
    · show zwp 24 (53, [some (.inr (some (0, 0))), some (.inl x1), some (.inl x2), some (.inl x3), some (.inr (some (3, x4)))], [], (S, d)) Q
      replace h := h.2 (of_decide_eq_false hb)
      refine zwp_blk 7 (c' := (66, [some (.inr (some (0, 0))), some (.inl x1), some (.inl x2), some (.inl x3), some (.inr (some (3, x4)))], [.inl x3, .inl (S 207 x4 0), .inl (S 200 x4 0), .inl x1, .inr (some (0, 0))], (S, d))) rfl ?_
      exact zwp_call rfl h
  · show zwp 24 (42, [some (.inr (some (0, 0))), some (.inl x1), some (.inl x2), some (.inl x3), some (.inr (some (3, x4)))], [], (S, d)) Q
    replace h := h.1 (zne_f hb)
    refine zwp_blk 3 (c' := (10, [some (.inr (some (0, 0))), some (.inl x1), some (.inl x2), some (.inl (x3 + zint (-1))), some (.inr (some (3, x4)))], [], (S, d))) rfl ?_
    exact h
theorem w24_69 {S : zS} {d : Nat} {Q : zO → zT → Prop} {x1 : Int32} {x2 : Int32} {x3 : Int32} {x4 : Nat} {y0 : Int32} (h : zwp 24 (10, [some (.inr (some (0, 0))), some (.inl x1), some (.inl (x2 + nI 1)), some (.inl (x3 + zint (-1))), some (.inr (some (3, x4)))], [], (S, d)) Q) : zwp 24 (69, [some (.inr (some (0, 0))), some (.inl x1), some (.inl x2), some (.inl x3), some (.inr (some (3, x4)))], [.inl y0], (S, d)) Q := by
  refine zwp_blk 5 (c' := (10, [some (.inr (some (0, 0))), some (.inl x1), some (.inl (x2 + nI 1)), some (.inl (x3 + zint (-1))), some (.inr (some (3, x4)))], [], (S, d))) rfl ?_
  exact h
theorem w24_84 {S : zS} {d : Nat} {Q : zO → zT → Prop} {x1 : Int32} {x2 : Int32} {x3 : Int32} {x4 : Nat} {y0 : Int32} (h : zwp 24 (10, [some (.inr (some (0, 0))), some (.inl x1), some (.inl (x2 + nI 1)), some (.inl (x3 + zint (-1))), some (.inr (some (3, x4)))], [], (S, d)) Q) : zwp 24 (84, [some (.inr (some (0, 0))), some (.inl x1), some (.inl x2), some (.inl x3), some (.inr (some (3, x4)))], [.inl y0], (S, d)) Q := by
  refine zwp_blk 4 (c' := (10, [some (.inr (some (0, 0))), some (.inl x1), some (.inl (x2 + nI 1)), some (.inl (x3 + zint (-1))), some (.inr (some (3, x4)))], [], (S, d))) rfl ?_
  exact h
theorem w24_106 {S : zS} {d : Nat} {Q : zO → zT → Prop} {x1 : Int32} {x2 : Int32} {x3 : Int32} {x4 : Option zV} {y0 : Nat} (h : zwp 59 (0, zent 59 [.inr (some (6, 0)), .inl x1], [], (S, d)) (zaf 24 115 [some (.inr (some (0, 0))), some (.inl x1), some (.inl x2), some (.inl x3), x4] [] Q)) : zwp 24 (106, [some (.inr (some (0, 0))), some (.inl x1), some (.inl x2), some (.inl x3), x4], [.inr (some (3, y0))], (S, d)) Q := by
  refine zwp_blk 4 (c' := (112, [some (.inr (some (0, 0))), some (.inl x1), some (.inl x2), some (.inl x3), x4], [.inl x1, .inr (some (6, 0))], (S, d))) rfl ?_
  exact zwp_call rfl h
theorem w24_115 {S : zS} {d : Nat} {Q : zO → zT → Prop} {x1 : Int32} {x2 : Int32} {x3 : Int32} {x4 : Option zV} (h : Q (.inl (some (.inl x2))) (S, d)) : zwp 24 (115, [some (.inr (some (0, 0))), some (.inl x1), some (.inl x2), some (.inl x3), x4], [], (S, d)) Q := by
  refine zwp_blk 1 (c' := (116, [some (.inr (some (0, 0))), some (.inl x1), some (.inl x2), some (.inl x3), x4], [.inl x2], (S, d))) rfl ?_
  exact zwp_end rfl h
-- 25 PageKeeper.putValue
theorem w25_0 {S : zS} {d : Nat} {Q : zO → zT → Prop} {x1 : Int32} {x2 : Int32} {x3 : Int32} {x4 : Int32} (h : zwp 28 (0, zent 28 [.inr (some (0, 0)), .inl x2], [], (S, d)) (zaf 25 14 [some (.inr (some (0, 0))), some (.inl x1), some (.inl x2), some (.inl x3), some (.inl x4), some (.inl (S 65 0 0)), none, none, none] [] Q)) : zwp 25 (0, [some (.inr (some (0, 0))), some (.inl x1), some (.inl x2), some (.inl x3), some (.inl x4), none, none, none, none], [], (S, d)) Q := by
  refine zwp_blk 6 (c' := (11, [some (.inr (some (0, 0))), some (.inl x1), some (.inl x2), some (.inl x3), some (.inl x4), some (.inl (S 65 0 0)), none, none, none], [.inl x2, .inr (some (0, 0))], (S, d))) rfl ?_
  exact zwp_call rfl h
theorem w25_14 {S : zS} {d : Nat} {Q : zO → zT → Prop} {x1 : Int32} {x2 : Int32} {x3 : Int32} {x4 : Int32} {x5 : Int32} {y0 : Int32} (h : ∃ j1 : Nat, y0 = nI j1 ∧ j1 < 40 ∧ (zwp 68 (0, zent 68 [.inr (some (12, j1)), .inl x2], [], (S, d)) (zaf 25 30 [some (.inr (some (0, 0))), some (.inl x1), some (.inl x2), some (.inl x3), some (.inl x4), some (.inl x5), some (.inl y0), none, none] [] Q))) : zwp 25 (14, [some (.inr (some (0, 0))), some (.inl x1), some (.inl x2), some (.inl x3), some (.inl x4), some (.inl x5), none, none, none], [.inl y0], (S, d)) Q := by
  refine zwp_blk 4 (c' := (22, [some (.inr (some (0, 0))), some (.inl x1), some (.inl x2), some (.inl x3), some (.inl x4), some (.inl x5), some (.inl y0), none, none], [.inl y0, .inr (some (10, 0))], (S, d))) rfl ?_
  obtain ⟨j1, ej1, lj1, h⟩ := h
  refine zwp_aldx (n := 40) (k := 11) (pc' := 23) (ls := [some (.inr (some (0, 0))), some (.inl x1), some (.inl x2), some (.inl x3), some (.inl x4), some (.inl x5), some (.inl y0), none, none]) (r := []) (t := (S, d)) rfl ej1 lj1 (by decide) (zok_11 lj1) ?_
  refine zwp_blk 2 (c' := (27, [some (.inr (some (0, 0))), some (.inl x1), some (.inl x2), some (.inl x3), some (.inl x4), some (.inl x5), some (.inl y0), none, none], [.inl x2, .inr (some (12, j1))], (S, d))) rfl ?_
  exact zwp_call rfl h
theorem w25_30 {S : zS} {d : Nat} {Q : zO → zT → Prop} {x1 : Int32} {x2 : Int32} {x3 : Int32} {x4 : Int32} {x5 : Int32} {x6 : Int32} {y0 : Int32} (h : (y0 = (zint (-1)) → zwp 29 (0, zent 29 [.inr (some (0, 0)), .inl x2], [], (S, d)) (zaf 25 39 [some (.inr (some (0, 0))), some (.inl x1), some (.inl x2), some (.inl x3), some (.inl x4), some (.inl x5), some (.inl x6), none, none] [] Q)) ∧ (¬ y0 = (zint (-1)) → zwp 25 (41, [some (.inr (some (0, 0))), some (.inl x1), some (.inl x2), some (.inl x3), some (.inl x4), some (.inl x5), some (.inl x6), none, none], [], (S, d)) Q)) : zwp 25 (30, [some (.inr (some (0, 0))), some (.inl x1), some (.inl x2), some (.inl x3), some (.inl x4), some (.inl x5), some (.inl x6), none, none], [.inl y0], (S, d)) Q := by
  refine zwp_blk 1 (c' := (31, [some (.inr (some (0, 0))), some (.inl x1), some (.inl x2), some (.inl x3), some (.inl x4), some (.inl x5), some (.inl x6), none, none], [.inl (zint (-1)), .inl y0], (S, d))) rfl ?_
  refine zwp_br rfl (fun hb => ?_) (fun hb => ?_)
  · show zwp 25 (41, [some (.inr (some (0, 0))), some (.inl x1), some (.inl x2), some (.inl x3), some (.inl x4), some (.inl x5), some (.inl x6), none, none], [], (S, d)) Q
    replace h := h.2 (zne_t hb)
    exact h
  · show zwp 25 (34, [some (.inr (some (0, 0))), some (.inl x1), some (.inl x2), some (.inl x3), some (.inl x4), some (.inl x5), some (.inl x6), none, none], [], (S, d)) Q
    replace h := h.1 (zne_f hb)
    refine zwp_blk 2 (c' := (36, [some (.inr (some (0, 0))), some (.inl x1), some (.inl x2), some (.inl x3), some (.inl x4), some (.inl x5), some (.inl x6), none, none], [.inl x2, .inr (some (0, 0))], (S, d))) rfl ?_
    exact zwp_call rfl h
theorem w25_39 {S : zS} {d : Nat} {Q : zO → zT → Prop} {x1 : Int32} {x2 : Int32} {x3 : Int32} {x4 : Int32} {x5 : Int32} {x6 : Int32} {y0 : Int32} (h : zwp 25 (41, [some (.inr (some (0, 0))), some (.inl x1), some (.inl x2), some (.inl x3), some (.inl x4), some (.inl x5), some (.inl y0), none, none], [], (S, d)) Q) : zwp 25 (39, [some (.inr (some (0, 0))), some (.inl x1), some (.inl x2), some (.inl x3), some (.inl x4), some (.inl x5), some (.inl x6), none, none], [.inl y0], (S, d)) Q := by
  refine zwp_blk 1 (c' := (41, [some (.inr (some (0, 0))), some (.inl x1), some (.inl x2), some (.inl x3), some (.inl x4), some (.inl x5), some (.inl y0), none, none], [], (S, d))) rfl ?_
  exact h
theorem w25_41 {S : zS} {d : Nat} {Q : zO → zT → Prop} {x1 : Int32} {x2 : Int32} {x3 : Int32} {x4 : Int32} {x5 : Int32} {x6 : Int32} (h : zwp 27 (0, zent 27 [.inr (some (0, 0)), .inl (nI 1), .inl x6, .inl x1, .inl x2, .inl x4], [], (S, d)) (zaf 25 66 [some (.inr (some (0, 0))), some (.inl x1), some (.inl x2), some (.inl x3), some (.inl x4), some (.inl x5), some (.inl x6), some (.inl (((S 65 0 0) - x5) / (nI 3))), none] [] Q)) : zwp 25 (41, [some (.inr (some (0, 0))), some (.inl x1), some (.inl x2), some (.inl x3), some (.inl x4), some (.inl x5), some (.inl x6), none, none], [], (S, d)) Q := by
  refine zwp_blk 6 (c' := (52, [some (.inr (some (0, 0))), some (.inl x1), some (.inl x2), some (.inl x3), some (.inl x4), some (.inl x5), some (.inl x6), none, none], [.inl (nI 3), .inl ((S 65 0 0) - x5)], (S, d))) rfl ?_
  refine zwp_grd (c' := (53, [some (.inr (some (0, 0))), some (.inl x1), some (.inl x2), some (.inl x3), some (.inl x4), some (.inl x5), some (.inl x6), none, none], [.inl (((S 65 0 0) - x5) / (nI 3))], (S, d))) rfl (by decide) ?_
  refine zwp_blk 7 (c' := (63, [some (.inr (some (0, 0))), some (.inl x1), some (.inl x2), some (.inl x3), some (.inl x4), some (.inl x5), some (.inl x6), some (.inl (((S 65 0 0) - x5) / (nI 3))), none], [.inl x4, .inl x2, .inl x1, .inl x6, .inl (nI 1), .inr (some (0, 0))], (S, d))) rfl ?_
  exact zwp_call rfl h
theorem w25_66 {S : zS} {d : Nat} {Q : zO → zT → Prop} {x1 : Int32} {x2 : Int32} {x3 : Int32} {x4 : Int32} {x5 : Int32} {x6 : Int32} {x7 : Int32} {y0 : Nat} (h : zwp 32 (0, zent 32 [.inr (some (0, 0)), .inr (some (3, y0))], [], (zu S 201 y0 0 x3, d)) (zaf 25 80 [some (.inr (some (0, 0))), some (.inl x1), some (.inl x2), some (.inl x3), some (.inl x4), some (.inl x5), some (.inl x6), some (.inl x7), some (.inr (some (3, y0)))] [] Q)) : zwp 25 (66, [some (.inr (some (0, 0))), some (.inl x1), some (.inl x2), some (.inl x3), some (.inl x4), some (.inl x5), some (.inl x6), some (.inl x7), none], [.inr (some (3, y0))], (S, d)) Q := by
  refine zwp_blk 6 (c' := (77, [some (.inr (some (0, 0))), some (.inl x1), some (.inl x2), some (.inl x3), some (.inl x4), some (.inl x5), some (.inl x6), some (.inl x7), some (.inr (some (3, y0)))], [.inr (some (3, y0)), .inr (some (0, 0))], (zu S 201 y0 0 x3, d))) rfl ?_
  exact zwp_call rfl h
theorem w25_80 {S : zS} {d : Nat} {Q : zO → zT → Prop} {x1 : Int32} {x2 : Int32} {x3 : Int32} {x4 : Int32} {x5 : Int32} {x6 : Int32} {x7 : Int32} {x8 : Nat} (h : Q (.inl (some (.inl x7))) (S, d)) : zwp 25 (80, [some (.inr (some (0, 0))), some (.inl x1), some (.inl x2), some (.inl x3), some (.inl x4), some (.inl x5), some (.inl x6), some (.inl x7), some (.inr (some (3, x8)))], [], (S, d)) Q := by
  refine zwp_blk 1 (c' := (82, [some (.inr (some (0, 0))), some (.inl x1), some (.inl x2), some (.inl x3), some (.inl x4), some (.inl x5), some (.inl x6), some (.inl x7), some (.inr (some (3, x8)))], [.inl x7], (S, d))) rfl ?_
  exact zwp_end rfl h
-- 26 PageKeeper.takeOut
theorem w26_0 {S : zS} {d : Nat} {Q : zO → zT → Prop} {x1 : Int32} {x2 : Int32} {x3 : Int32} (h : zwp 28 (0, zent 28 [.inr (some (0, 0)), .inl x2], [], (S, d)) (zaf 26 5 [some (.inr (some (0, 0))), some (.inl x1), some (.inl x2), some (.inl x3), none, none] [] Q)) : zwp 26 (0, [some (.inr (some (0, 0))), some (.inl x1), some (.inl x2), some (.inl x3), none, none], [], (S, d)) Q := by
  refine zwp_blk 2 (c' := (2, [some (.inr (some (0, 0))), some (.inl x1), some (.inl x2), some (.inl x3), none, none], [.inl x2, .inr (some (0, 0))], (S, d))) rfl ?_
  exact zwp_call rfl h
theorem w26_5 {S : zS} {d : Nat} {Q : zO → zT → Prop} {x1 : Int32} {x2 : Int32} {x3 : Int32} {y0 : Int32} (h : ∃ j1 : Nat, y0 = nI j1 ∧ j1 < 40 ∧ (zwp 68 (0, zent 68 [.inr (some (12, j1)), .inl x2], [], (S, d)) (zaf 26 21 [some (.inr (some (0, 0))), some (.inl x1), some (.inl x2), some (.inl x3), some (.inl y0), none] [] Q))) : zwp 26 (5, [some (.inr (some (0, 0))), some (.inl x1), some (.inl x2), some (.inl x3), none, none], [.inl y0], (S, d)) Q := by
  refine zwp_blk 4 (c' := (13, [some (.inr (some (0, 0))), some (.inl x1), some (.inl x2), some (.inl x3), some (.inl y0), none], [.inl y0, .inr (some (10, 0))], (S, d))) rfl ?_
  obtain ⟨j1, ej1, lj1, h⟩ := h
  refine zwp_aldx (n := 40) (k := 11) (pc' := 14) (ls := [some (.inr (some (0, 0))), some (.inl x1), some (.inl x2), some (.inl x3), some (.inl y0), none]) (r := []) (t := (S, d)) rfl ej1 lj1 (by decide) (zok_11 lj1) ?_
  refine zwp_blk 2 (c' := (18, [some (.inr (some (0, 0))), some (.inl x1), some (.inl x2), some (.inl x3), some (.inl y0), none], [.inl x2, .inr (some (12, j1))], (S, d))) rfl ?_
  exact zwp_call rfl h
theorem w26_21 {S : zS} {d : Nat} {Q : zO → zT → Prop} {x1 : Int32} {x2 : Int32} {x3 : Int32} {x4 : Int32} {y0 : Int32} (h : (y0 = (zint (-1)) → Q (.inl (some (.inl (nI 0)))) (S, d)) ∧ (¬ y0 = (zint (-1)) → zwp 27 (0, zent 27 [.inr (some (0, 0)), .inl (nI 2), .inl x4, .inl x1, .inl x2, .inl x3], [], (S, d)) (zaf 26 37 [some (.inr (some (0, 0))), some (.inl x1), some (.inl x2), some (.inl x3), some (.inl x4), none] [] Q))) : zwp 26 (21, [some (.inr (some (0, 0))), some (.inl x1), some (.inl x2), some (.inl x3), some (.inl x4), none], [.inl y0], (S, d)) Q := by
  refine zwp_blk 1 (c' := (22, [some (.inr (some (0, 0))), some (.inl x1), some (.inl x2), some (.inl x3), some (.inl x4), none], [.inl (zint (-1)), .inl y0], (S, d))) rfl ?_
  refine zwp_br rfl (fun hb => ?_) (fun hb => ?_)
  · show zwp 26 (27, [some (.inr (some (0, 0))), some (.inl x1), some (.inl x2), some (.inl x3), some (.inl x4), none], [], (S, d)) Q
    replace h := h.2 (zne_t hb)
    refine zwp_blk 6 (c' := (34, [some (.inr (some (0, 0))), some (.inl x1), some (.inl x2), some (.inl x3), some (.inl x4), none], [.inl x3, .inl x2, .inl x1, .inl x4, .inl (nI 2), .inr (some (0, 0))], (S, d))) rfl ?_
    exact zwp_call rfl h
  · show zwp 26 (25, [some (.inr (some (0, 0))), some (.inl x1), some (.inl x2), some (.inl x3), some (.inl x4), none], [], (S, d)) Q
    replace h := h.1 (zne_f hb)
    refine zwp_blk 1 (c' := (26, [some (.inr (some (0, 0))), some (.inl x1), some (.inl x2), some (.inl x3), some (.inl x4), none], [.inl (nI 0)], (S, d))) rfl ?_
    exact zwp_end rfl h
theorem w26_37 {S : zS} {d : Nat} {Q : zO → zT → Prop} {x1 : Int32} {x2 : Int32} {x3 : Int32} {x4 : Int32} {y0 : Nat} (h : zwp 32 (0, zent 32 [.inr (some (0, 0)), .inr (some (3, y0))], [], (S, d)) (zaf 26 45 [some (.inr (some (0, 0))), some (.inl x1), some (.inl x2), some (.inl x3), some (.inl x4), some (.inr (some (3, y0)))] [] Q)) : zwp 26 (37, [some (.inr (some (0, 0))), some (.inl x1), some (.inl x2), some (.inl x3), some (.inl x4), none], [.inr (some (3, y0))], (S, d)) Q := by
  refine zwp_blk 3 (c' := (42, [some (.inr (some (0, 0))), some (.inl x1), some (.inl x2), some (.inl x3), some (.inl x4), some (.inr (some (3, y0)))], [.inr (some (3, y0)), .inr (some (0, 0))], (S, d))) rfl ?_
  exact zwp_call rfl h
theorem w26_45 {S : zS} {d : Nat} {Q : zO → zT → Prop} {x1 : Int32} {x2 : Int32} {x3 : Int32} {x4 : Int32} {x5 : Nat} (h : Q (.inl (some (.inl (S 192 x5 0)))) (S, d)) : zwp 26 (45, [some (.inr (some (0, 0))), some (.inl x1), some (.inl x2), some (.inl x3), some (.inl x4), some (.inr (some (3, x5)))], [], (S, d)) Q := by
  refine zwp_blk 2 (c' := (50, [some (.inr (some (0, 0))), some (.inl x1), some (.inl x2), some (.inl x3), some (.inl x4), some (.inr (some (3, x5)))], [.inl (S 192 x5 0)], (S, d))) rfl ?_
  exact zwp_end rfl h
-- 27 PageKeeper.addChange
theorem w27_0 {S : zS} {d : Nat} {Q : zO → zT → Prop} {x1 : Int32} {x2 : Int32} {x3 : Int32} {x4 : Int32} {x5 : Int32} (h : ∃ j1 : Nat, x2 = nI j1 ∧ j1 < 40 ∧ (zwp 68 (0, zent 68 [.inr (some (12, j1)), .inl x4], [], (S, d)) (zaf 27 18 [some (.inr (some (0, 0))), some (.inl x1), some (.inl x2), some (.inl x3), some (.inl x4), some (.inl x5), some (.inr (some (12, j1))), none, none] [] Q))) : zwp 27 (0, [some (.inr (some (0, 0))), some (.inl x1), some (.inl x2), some (.inl x3), some (.inl x4), some (.inl x5), none, none, none], [], (S, d)) Q := by
  refine zwp_blk 3 (c' := (5, [some (.inr (some (0, 0))), some (.inl x1), some (.inl x2), some (.inl x3), some (.inl x4), some (.inl x5), none, none, none], [.inl x2, .inr (some (10, 0))], (S, d))) rfl ?_
  obtain ⟨j1, ej1, lj1, h⟩ := h
  refine zwp_aldx (n := 40) (k := 11) (pc' := 6) (ls := [some (.inr (some (0, 0))), some (.inl x1), some (.inl x2), some (.inl x3), some (.inl x4), some (.inl x5), none, none, none]) (r := []) (t := (S, d)) rfl ej1 lj1 (by decide) (zok_11 lj1) ?_
  refine zwp_blk 4 (c' := (15, [some (.inr (some (0, 0))), some (.inl x1), some (.inl x2), some (.inl x3), some (.inl x4), some (.inl x5), some (.inr (some (12, j1))), none, none], [.inl x4, .inr (some (12, j1))], (S, d))) rfl ?_
  exact zwp_call rfl h
theorem w27_18 {S : zS} {d : Nat} {Q : zO → zT → Prop} {x1 : Int32} {x2 : Int32} {x3 : Int32} {x4 : Int32} {x5 : Int32} {x6 : Nat} {y0 : Int32} (h : ∃ j1 : Nat, x2 = nI j1 ∧ j1 < 40 ∧ (zwp 39 (0, zent 39 [.inr (some (1, 0)), .inl x1, .inl x2, .inl (S 705 j1 0), .inl x3], [], (S, d)) (zaf 27 39 [some (.inr (some (0, 0))), some (.inl x1), some (.inl x2), some (.inl x3), some (.inl x4), some (.inl x5), some (.inr (some (12, x6))), some (.inl y0), none] [] Q))) : zwp 27 (18, [some (.inr (some (0, 0))), some (.inl x1), some (.inl x2), some (.inl x3), some (.inl x4), some (.inl x5), some (.inr (some (12, x6))), none, none], [.inl y0], (S, d)) Q := by
  refine zwp_blk 8 (c' := (31, [some (.inr (some (0, 0))), some (.inl x1), some (.inl x2), some (.inl x3), some (.inl x4), some (.inl x5), some (.inr (some (12, x6))), some (.inl y0), none], [.inl x2, .inr (some (10, 0)), .inl x2, .inl x1, .inr (some (1, 0))], (S, d))) rfl ?_
  obtain ⟨j1, ej1, lj1, h⟩ := h
  refine zwp_aldx (n := 40) (k := 11) (pc' := 32) (ls := [some (.inr (some (0, 0))), some (.inl x1), some (.inl x2), some (.inl x3), some (.inl x4), some (.inl x5), some (.inr (some (12, x6))), some (.inl y0), none]) (r := [.inl x2, .inl x1, .inr (some (1, 0))]) (t := (S, d)) rfl ej1 lj1 (by decide) (zok_11 lj1) ?_
  refine zwp_blk 2 (c' := (36, [some (.inr (some (0, 0))), some (.inl x1), some (.inl x2), some (.inl x3), some (.inl x4), some (.inl x5), some (.inr (some (12, x6))), some (.inl y0), none], [.inl x3, .inl (S 705 j1 0), .inl x2, .inl x1, .inr (some (1, 0))], (S, d))) rfl ?_
  exact zwp_call rfl h
theorem w27_39 {S : zS} {d : Nat} {Q : zO → zT → Prop} {x1 : Int32} {x2 : Int32} {x3 : Int32} {x4 : Int32} {x5 : Int32} {x6 : Nat} {x7 : Int32} {y0 : Nat} (h : (x7 = (zint (-1)) → zwp 27 (68, [some (.inr (some (0, 0))), some (.inl x1), some (.inl x2), some (.inl x3), some (.inl x4), some (.inl x5), some (.inr (some (12, x6))), some (.inl x7), some (.inr (some (3, y0)))], [.inl (nI 0), .inr (some (3, y0))], (zu (zu S 200 y0 0 x4) 197 y0 0 x5, d)) Q) ∧ (¬ x7 = (zint (-1)) → zwp 27 (68, [some (.inr (some (0, 0))), some (.inl x1), some (.inl x2), some (.inl x3), some (.inl x4), some (.inl x5), some (.inr (some (12, x6))), some (.inl x7), some (.inr (some (3, y0)))], [.inl (nI 1), .inr (some (3, y0))], (zu (zu S 200 y0 0 x4) 197 y0 0 x5, d)) Q)) : zwp 27 (39, [some (.inr (some (0, 0))), some (.inl x1), some (.inl x2), some (.inl x3), some (.inl x4), some (.inl x5), some (.inr (some (12, x6))), some (.inl x7), none], [.inr (some (3, y0))], (S, d)) Q := by
  refine zwp_blk 10 (c' := (60, [some (.inr (some (0, 0))), some (.inl x1), some (.inl x2), some (.inl x3), some (.inl x4), some (.inl x5), some (.inr (some (12, x6))), some (.inl x7), some (.inr (some (3, y0)))], [.inl (zint (-1)), .inl x7, .inr (some (3, y0))], (zu (zu S 200 y0 0 x4) 197 y0 0 x5, d))) rfl ?_
  refine zwp_br rfl (fun hb => ?_) (fun hb => ?_)
  · show zwp 27 (67, [some (.inr (some (0, 0))), some (.inl x1), some (.inl x2), some (.inl x3), some (.inl x4), some (.inl x5), some (.inr (some (12, x6))), some (.inl x7), some (.inr (some (3, y0)))], [.inr (some (3, y0))], (zu (zu S 200 y0 0 x4) 197 y0 0 x5, d)) Q
    replace h := h.1 (of_decide_eq_true hb)
    refine zwp_blk 1 (c' := (68, [some (.inr (some (0, 0))), some (.inl x1), some (.inl x2), some (.inl x3), some (.inl x4), some (.inl x5), some (.inr (some (12, x6))), some (.inl x7), some (.inr (some (3, y0)))], [.inl (nI 0), .inr (some (3, y0))], (zu (zu S 200 y0 0 x4) 197 y0 0 x5, d))) rfl ?_
    exact h
  · show zwp 27 (63, [some (.inr (some (0, 0))), some (.inl x1), some (.inl x2), some (.inl x3), some (.inl x4), some (.inl x5), some (.inr (some (12, x6))), some (.inl x7), some (.inr (some (3, y0)))], [.inr (some (3, y0))], (zu (zu S 200 y0 0 x4) 197 y0 0 x5, d)) Q
    replace h := h.2 (of_decide_eq_false hb)
    refine zwp_blk 2 (c' := (68, [some (.inr (some (0, 0))), some (.inl x1), some (.inl x2), some (.inl x3), some (.inl x4), some (.inl x5), some (.inr (some (12, x6))), some (.inl x7), some (.inr (some (3, y0)))], [.inl (nI 1), .inr (some (3, y0))], (zu (zu S 200 y0 0 x4) 197 y0 0 x5, d))) rfl ?_
    exact h
theorem w27_68 {S : zS} {d : Nat} {Q : zO → zT → Prop} {x1 : Int32} {x2 : Int32} {x3 : Int32} {x4 : Int32} {x5 : Int32} {x6 : Nat} {x7 : Int32} {x8 : Nat} {y0 : Int32} {y1 : Nat} (h : (y0 = 0 ∨ y0 = 1) ∧ ((x7 = (zint (-1)) → Q (.inl (some (.inr (some (3, x8))))) (zu (zu S 206 y1 0 y0) 207 x8 0 (nI 0), d)) ∧ (¬ x7 = (zint (-1)) → ∃ j1 : Nat, x7 = nI j1 ∧ j1 < 4 ∧ (Q (.inl (some (.inr (some (3, x8))))) (zu (zu S 206 y1 0 y0) 207 x8 0 (S 896 x6 j1), d))))) : zwp 27 (68, [some (.inr (some (0, 0))), some (.inl x1), some (.inl x2), some (.inl x3), some (.inl x4), some (.inl x5), some (.inr (some (12, x6))), some (.inl x7), some (.inr (some (3, x8)))], [.inl y0, .inr (some (3, y1))], (S, d)) Q := by
  refine zwp_grd (c' := (71, [some (.inr (some (0, 0))), some (.inl x1), some (.inl x2), some (.inl x3), some (.inl x4), some (.inl x5), some (.inr (some (12, x6))), some (.inl x7), some (.inr (some (3, x8)))], [], (zu S 206 y1 0 y0, d))) rfl (decide_eq_true h.1) ?_
  replace h := h.2
  refine zwp_blk 3 (c' := (76, [some (.inr (some (0, 0))), some (.inl x1), some (.inl x2), some (.inl x3), some (.inl x4), some (.inl x5), some (.inr (some (12, x6))), some (.inl x7), some (.inr (some (3, x8)))], [.inl (zint (-1)), .inl x7, .inr (some (3, x8))], (zu S 206 y1 0 y0, d))) rfl ?_
  refine zwp_br rfl (fun hb => ?_) (fun hb => ?_)
  · show zwp 27 (90, [some (.inr (some (0, 0))), some (.inl x1), some (.inl x2), some (.inl x3), some (.inl x4), some (.inl x5), some (.inr (some (12, x6))), some (.inl x7), some (.inr (some (3, x8)))], [.inr (some (3, x8))], (zu S 206 y1 0 y0, d)) Q
    replace h := h.1 (of_decide_eq_true hb)
    refine zwp_blk 3 (c' := (96, [some (.inr (some (0, 0))), some (.inl x1), some (.inl x2), some (.inl x3), some (.inl x4), some (.inl x5), some (.inr (some (12, x6))), some (.inl x7), some (.inr (some (3, x8)))], [.inr (some (3, x8))], (zu (zu S 206 y1 0 y0) 207 x8 0 (nI 0), d))) rfl ?_
    exact zwp_end rfl h
  · show zwp 27 (79, [some (.inr (some (0, 0))), some (.inl x1), some (.inl x2), some (.inl x3), some (.inl x4), some (.inl x5), some (.inr (some (12, x6))), some (.inl x7), some (.inr (some (3, x8)))], [.inr (some (3, x8))], (zu S 206 y1 0 y0, d)) Q
    replace h := h.2 (of_decide_eq_false hb)
    refine zwp_blk 3 (c' := (86, [some (.inr (some (0, 0))), some (.inl x1), some (.inl x2), some (.inl x3), some (.inl x4), some (.inl x5), some (.inr (some (12, x6))), some (.inl x7), some (.inr (some (3, x8)))], [.inl x7, .inr (some (14, x6)), .inr (some (3, x8))], (zu S 206 y1 0 y0, d))) rfl ?_
    obtain ⟨j1, ej1, lj1, h⟩ := h
    refine zwp_ldx (n := 4) (cd := 896) (i := x6) (pc' := 87) (ls := [some (.inr (some (0, 0))), some (.inl x1), some (.inl x2), some (.inl x3), some (.inl x4), some (.inl x5), some (.inr (some (12, x6))), some (.inl x7), some (.inr (some (3, x8)))]) (r := [.inr (some (3, x8))]) (t := (zu S 206 y1 0 y0, d)) rfl ej1 lj1 (by decide) ?_
    refine zwp_blk 3 (c' := (96, [some (.inr (some (0, 0))), some (.inl x1), some (.inl x2), some (.inl x3), some (.inl x4), some (.inl x5), some (.inr (some (12, x6))), some (.inl x7), some (.inr (some (3, x8)))], [.inr (some (3, x8))], (zu (zu S 206 y1 0 y0) 207 x8 0 (S 896 x6 j1), d))) rfl ?_
    exact zwp_end rfl h
-- 28 PageKeeper.goDown
theorem w28_0 {S : zS} {d : Nat} {Q : zO → zT → Prop} {x1 : Int32} (h : zwp 33 (0, zent 33 [.inr (some (0, 0)), .inl (nI 0)], [], (S, d)) (zaf 28 7 [some (.inr (some (0, 0))), some (.inl x1), some (.inl (nI 0)), none] [] Q)) : zwp 28 (0, [some (.inr (some (0, 0))), some (.inl x1), none, none], [], (S, d)) Q := by
  refine zwp_blk 4 (c' := (4, [some (.inr (some (0, 0))), some (.inl x1), some (.inl (nI 0)), none], [.inl (nI 0), .inr (some (0, 0))], (S, d))) rfl ?_
  exact zwp_call rfl h
theorem w28_7 {S : zS} {d : Nat} {Q : zO → zT → Prop} {x1 : Int32} {x2 : Int32} (h : zwp 28 (9, [some (.inr (some (0, 0))), some (.inl x1), some (.inl x2), some (.inl (nI 1))], [], (S, d)) Q) : zwp 28 (7, [some (.inr (some (0, 0))), some (.inl x1), some (.inl x2), none], [], (S, d)) Q := by
  refine zwp_blk 2 (c' := (9, [some (.inr (some (0, 0))), some (.inl x1), some (.inl x2), some (.inl (nI 1))], [], (S, d))) rfl ?_
  exact h
theorem w28_9 {S : zS} {d : Nat} {Q : zO → zT → Prop} {x1 : Int32} {x2 : Int32} {x3 : Int32} (h : ((nI 40) ≤ x3 → Q (.inl (some (.inl x2))) (S, d)) ∧ (¬ (nI 40) ≤ x3 → ∃ j1 : Nat, x2 = nI j1 ∧ j1 < 40 ∧ (((S 768 j1 0) = 0 → Q (.inl (some (.inl x2))) (S, d)) ∧ (¬ (S 768 j1 0) = 0 → ∃ j2 : Nat, x2 = nI j2 ∧ j2 < 40 ∧ (zwp 69 (0, zent 69 [.inr (some (12, j2)), .inl x1], [], (S, d)) (zaf 28 43 [some (.inr (some (0, 0))), some (.inl x1), some (.inl x2), some (.inl x3)] [] Q)))))) : zwp 28 (9, [some (.inr (some (0, 0))), some (.inl x1), some (.inl x2), some (.inl x3)], [], (S, d)) Q := by
  refine zwp_blk 2 (c' := (12, [some (.inr (some (0, 0))), some (.inl x1), some (.inl x2), some (.inl x3)], [.inl (nI 40), .inl x3], (S, d))) rfl ?_
  refine zwp_br rfl (fun hb => ?_) (fun hb => ?_)
  · show zwp 28 (55, [some (.inr (some (0, 0))), some (.inl x1), some (.inl x2), some (.inl x3)], [], (S, d)) Q
    replace h := h.1 (of_decide_eq_true hb)
    refine zwp_blk 1 (c' := (56, [some (.inr (some (0, 0))), some (.inl x1), some (.inl x2), some (.inl x3)], [.inl x2], (S, d))) rfl ?_
    exact zwp_end rfl h
  · show zwp 28 (15, [some (.inr (some (0, 0))), some (.inl x1), some (.inl x2), some (.inl x3)], [], (S, d)) Q
    replace h := h.2 (of_decide_eq_false hb)
    refine zwp_blk 3 (c' := (20, [some (.inr (some (0, 0))), some (.inl x1), some (.inl x2), some (.inl x3)], [.inl x2, .inr (some (10, 0))], (S, d))) rfl ?_
    obtain ⟨j1, ej1, lj1, h⟩ := h
    refine zwp_aldx (n := 40) (k := 11) (pc' := 21) (ls := [some (.inr (some (0, 0))), some (.inl x1), some (.inl x2), some (.inl x3)]) (r := []) (t := (S, d)) rfl ej1 lj1 (by decide) (zok_11 lj1) ?_
    refine zwp_blk 2 (c' := (27, [some (.inr (some (0, 0))), some (.inl x1), some (.inl x2), some (.inl x3)], [.inl (S 768 j1 0)], (S, d))) rfl ?_
    refine zwp_br rfl (fun hb => ?_) (fun hb => ?_)
    · show zwp 28 (55, [some (.inr (some (0, 0))), some (.inl x1), some (.inl x2), some (.inl x3)], [], (S, d)) Q
      replace h := h.1 (of_decide_eq_true hb)
      refine zwp_blk 1 (c' := (56, [some (.inr (some (0, 0))), some (.inl x1), some (.inl x2), some (.inl x3)], [.inl x2], (S, d))) rfl ?_
      exact zwp_end rfl h
    · show zwp 28 (30, [some (.inr (some (0, 0))), some (.inl x1), some (.inl x2), some (.inl x3)], [], (S, d)) Q
      replace h := h.2 (of_decide_eq_false hb)
      refine zwp_blk 3 (c' := (35, [some (.inr (some (0, 0))), some (.inl x1), some (.inl x2), some (.inl x3)], [.inl x2, .inr (some (10, 0))], (S, d))) rfl ?_
      obtain ⟨j2, ej2, lj2, h⟩ := h
      refine zwp_aldx (n := 40) (k := 11) (pc' := 36) (ls := [some (.inr (some (0, 0))), some (.inl x1), some (.inl x2), some (.inl x3)]) (r := []) (t := (S, d)) rfl ej2 lj2 (by decide) (zok_11 lj2) ?_
      refine zwp_blk 2 (c' := (40, [some (.inr (some (0, 0))), some (.inl x1), some (.inl x2), some (.inl x3)], [.inl x1, .inr (some (12, j2))], (S, d))) rfl ?_
      exact zwp_call rfl h
theorem w28_43 {S : zS} {d : Nat} {Q : zO → zT → Prop} {x1 : Int32} {x2 : Int32} {x3 : Int32} {y0 : Int32} (h : zwp 33 (0, zent 33 [.inr (some (0, 0)), .inl y0], [], (S, d)) (zaf 28 49 [some (.inr (some (0, 0))), some (.inl x1), some (.inl y0), some (.inl x3)] [] Q)) : zwp 28 (43, [some (.inr (some (0, 0))), some (.inl x1), some (.inl x2), some (.inl x3)], [.inl y0], (S, d)) Q := by
  refine zwp_blk 3 (c' := (46, [some (.inr (some (0, 0))), some (.inl x1), some (.inl y0), some (.inl x3)], [.inl y0, .inr (some (0, 0))], (S, d))) rfl ?_
  exact zwp_call rfl h
theorem w28_49 {S : zS} {d : Nat} {Q : zO → zT → Prop} {x1 : Int32} {x2 : Int32} {x3 : Int32} (h : zwp 28 (9, [some (.inr (some (0, 0))), some (.inl x1), some (.inl x2), some (.inl (x3 + nI 1))], [], (S, d)) Q) : zwp 28 (49, [some (.inr (some (0, 0))), some (.inl x1), some (.inl x2), some (.inl x3)], [], (S, d)) Q := by
  refine zwp_blk 2 (c' := (9, [some (.inr (some (0, 0))), some (.inl x1), some (.inl x2), some (.inl (x3 + nI 1))], [], (S, d))) rfl ?_
  exact h
-- 29 PageKeeper.goDownSplitting
theorem w29_0 {S : zS} {d : Nat} {Q : zO → zT → Prop} {x1 : Int32} (h : zwp 29 (7, [some (.inr (some (0, 0))), some (.inl x1), some (.inl (nI 0)), some (.inl (nI 0)), some (.inl (nI 0))], [], (S, d)) Q) : zwp 29 (0, [some (.inr (some (0, 0))), some (.inl x1), none, none, none], [], (S, d)) Q := by
  refine zwp_blk 6 (c' := (7, [some (.inr (some (0, 0))), some (.inl x1), some (.inl (nI 0)), some (.inl (nI 0)), some (.inl (nI 0))], [], (S, d))) rfl ?_
  exact h
theorem w29_7 {S : zS} {d : Nat} {Q : zO → zT → Prop} {x1 : Int32} {x2 : Int32} {x3 : Int32} {x4 : Int32} (h : ((nI 40) ≤ x4 → Q (.inl (some (.inl x3))) (S, d)) ∧ (¬ (nI 40) ≤ x4 → zwp 33 (0, zent 33 [.inr (some (0, 0)), .inl x3], [], (S, d)) (zaf 29 19 [some (.inr (some (0, 0))), some (.inl x1), some (.inl x2), some (.inl x3), some (.inl x4)] [] Q))) : zwp 29 (7, [some (.inr (some (0, 0))), some (.inl x1), some (.inl x2), some (.inl x3), some (.inl x4)], [], (S, d)) Q := by
  refine zwp_blk 2 (c' := (11, [some (.inr (some (0, 0))), some (.inl x1), some (.inl x2), some (.inl x3), some (.inl x4)], [.inl (nI 40), .inl x4], (S, d))) rfl ?_
  refine zwp_br rfl (fun hb => ?_) (fun hb => ?_)
  · show zwp 29 (100, [some (.inr (some (0, 0))), some (.inl x1), some (.inl x2), some (.inl x3), some (.inl x4)], [], (S, d)) Q
    replace h := h.1 (of_decide_eq_true hb)
    refine zwp_blk 1 (c' := (101, [some (.inr (some (0, 0))), some (.inl x1), some (.inl x2), some (.inl x3), some (.inl x4)], [.inl x3], (S, d))) rfl ?_
    exact zwp_end rfl h
  · show zwp 29 (14, [some (.inr (some (0, 0))), some (.inl x1), some (.inl x2), some (.inl x3), some (.inl x4)], [], (S, d)) Q
    replace h := h.2 (of_decide_eq_false hb)
    refine zwp_blk 2 (c' := (16, [some (.inr (some (0, 0))), some (.inl x1), some (.inl x2), some (.inl x3), some (.inl x4)], [.inl x3, .inr (some (0, 0))], (S, d))) rfl ?_
    exact zwp_call rfl h
theorem w29_19 {S : zS} {d : Nat} {Q : zO → zT → Prop} {x1 : Int32} {x2 : Int32} {x3 : Int32} {x4 : Int32} (h : ∃ j1 : Nat, x3 = nI j1 ∧ j1 < 40 ∧ (((S 769 j1 0) = (nI 4) → (x3 = 0 → zwp 30 (0, zent 30 [.inr (some (0, 0)), .inl x1], [], (S, d)) (zaf 29 44 [some (.inr (some (0, 0))), some (.inl x1), some (.inl x2), some (.inl x3), some (.inl x4)] [] Q)) ∧ (¬ x3 = 0 → zwp 31 (0, zent 31 [.inr (some (0, 0)), .inl x2, .inl x3, .inl x1], [], (S, d)) (zaf 29 54 [some (.inr (some (0, 0))), some (.inl x1), some (.inl x2), some (.inl x3), some (.inl x4)] [] Q))) ∧ (¬ (S 769 j1 0) = (nI 4) → zwp 29 (60, [some (.inr (some (0, 0))), some (.inl x1), some (.inl x2), some (.inl x3), some (.inl x4)], [], (S, d)) Q))) : zwp 29 (19, [some (.inr (some (0, 0))), some (.inl x1), some (.inl x2), some (.inl x3), some (.inl x4)], [], (S, d)) Q := by
  refine zwp_blk 3 (c' := (24, [some (.inr (some (0, 0))), some (.inl x1), some (.inl x2), some (.inl x3), some (.inl x4)], [.inl x3, .inr (some (10, 0))], (S, d))) rfl ?_
  obtain ⟨j1, ej1, lj1, h⟩ := h
  refine zwp_aldx (n := 40) (k := 11) (pc' := 25) (ls := [some (.inr (some (0, 0))), some (.inl x1), some (.inl x2), some (.inl x3), some (.inl x4)]) (r := []) (t := (S, d)) rfl ej1 lj1 (by decide) (zok_11 lj1) ?_
  refine zwp_blk 3 (c' := (32, [some (.inr (some (0, 0))), some (.inl x1), some (.inl x2), some (.inl x3), some (.inl x4)], [.inl (nI 4), .inl (S 769 j1 0)], (S, d))) rfl ?_
  refine zwp_br rfl (fun hb => ?_) (fun hb => ?_)
  · show zwp 29 (60, [some (.inr (some (0, 0))), some (.inl x1), some (.inl x2), some (.inl x3), some (.inl x4)], [], (S, d)) Q
    replace h := h.2 (zne_t hb)
    exact h
  · show zwp 29 (35, [some (.inr (some (0, 0))), some (.inl x1), some (.inl x2), some (.inl x3), some (.inl x4)], [], (S, d)) Q
    replace h := h.1 (zne_f hb)
    refine zwp_blk 1 (c' := (36, [some (.inr (some (0, 0))), some (.inl x1), some (.inl x2), some (.inl x3), some (.inl x4)], [.inl x3], (S, d))) rfl ?_
    refine zwp_br rfl (fun hb => ?_) (fun hb => ?_)
    · show zwp 29 (47, [some (.inr (some (0, 0))), some (.inl x1), some (.inl x2), some (.inl x3), some (.inl x4)], [], (S, d)) Q
      replace h := h.2 (zne_t hb)
      refine zwp_blk 4 (c' := (51, [some (.inr (some (0, 0))), some (.inl x1), some (.inl x2), some (.inl x3), some (.inl x4)], [.inl x1, .inl x3, .inl x2, .inr (some (0, 0))], (S, d))) rfl ?_
      exact zwp_call rfl h
    · show zwp 29 (39, [some (.inr (some (0, 0))), some (.inl x1), some (.inl x2), some (.inl x3), some (.inl x4)], [], (S, d)) Q
      replace h := h.1 (zne_f hb)
      refine zwp_blk 2 (c' := (41, [some (.inr (some (0, 0))), some (.inl x1), some (.inl x2), some (.inl x3), some (.inl x4)], [.inl x1, .inr (some (0, 0))], (S, d))) rfl ?_
      exact zwp_call rfl h
theorem w29_44 {S : zS} {d : Nat} {Q : zO → zT → Prop} {x1 : Int32} {x2 : Int32} {x3 : Int32} {x4 : Int32} {y0 : Int32} (h : zwp 29 (54, [some (.inr (some (0, 0))), some (.inl x1), some (.inl x2), some (.inl x3), some (.inl x4)], [.inl y0], (S, d)) Q) : zwp 29 (44, [some (.inr (some (0, 0))), some (.inl x1), some (.inl x2), some (.inl x3), some (.inl x4)], [.inl y0], (S, d)) Q := by
  refine zwp_blk 1 (c' := (54, [some (.inr (some (0, 0))), some (.inl x1), some (.inl x2), some (.inl x3), some (.inl x4)], [.inl y0], (S, d))) rfl ?_
  exact h
theorem w29_54 {S : zS} {d : Nat} {Q : zO → zT → Prop} {x1 : Int32} {x2 : Int32} {x3 : Int32} {x4 : Int32} {y0 : Int32} (h : zwp 33 (0, zent 33 [.inr (some (0, 0)), .inl y0], [], (S, d)) (zaf 29 60 [some (.inr (some (0, 0))), some (.inl x1), some (.inl x2), some (.inl y0), some (.inl x4)] [] Q)) : zwp 29 (54, [some (.inr (some (0, 0))), some (.inl x1), some (.inl x2), some (.inl x3), some (.inl x4)], [.inl y0], (S, d)) Q := by
  refine zwp_blk 3 (c' := (57, [some (.inr (some (0, 0))), some (.inl x1), some (.inl x2), some (.inl y0), some (.inl x4)], [.inl y0, .inr (some (0, 0))], (S, d))) rfl ?_
  exact zwp_call rfl h
theorem w29_60 {S : zS} {d : Nat} {Q : zO → zT → Prop} {x1 : Int32} {x2 : Int32} {x3 : Int32} {x4 : Int32} (h : ∃ j1 : Nat, x3 = nI j1 ∧ j1 < 40 ∧ (((S 768 j1 0) = 0 → Q (.inl (some (.inl x3))) (S, d)) ∧ (¬ (S 768 j1 0) = 0 → ∃ j2 : Nat, x3 = nI j2 ∧ j2 < 40 ∧ (zwp 69 (0, zent 69 [.inr (some (12, j2)), .inl x1], [], (S, d)) (zaf 29 93 [some (.inr (some (0, 0))), some (.inl x1), some (.inl x3), some (.inl x3), some (.inl x4)] [] Q))))) : zwp 29 (60, [some (.inr (some (0, 0))), some (.inl x1), some (.inl x2), some (.inl x3), some (.inl x4)], [], (S, d)) Q := by
  refine zwp_blk 3 (c' := (65, [some (.inr (some (0, 0))), some (.inl x1), some (.inl x2), some (.inl x3), some (.inl x4)], [.inl x3, .inr (some (10, 0))], (S, d))) rfl ?_
  obtain ⟨j1, ej1, lj1, h⟩ := h
  refine zwp_aldx (n := 40) (k := 11) (pc' := 66) (ls := [some (.inr (some (0, 0))), some (.inl x1), some (.inl x2), some (.inl x3), some (.inl x4)]) (r := []) (t := (S, d)) rfl ej1 lj1 (by decide) (zok_11 lj1) ?_
  refine zwp_blk 2 (c' := (72, [some (.inr (some (0, 0))), some (.inl x1), some (.inl x2), some (.inl x3), some (.inl x4)], [.inl (S 768 j1 0)], (S, d))) rfl ?_
  refine zwp_br rfl (fun hb => ?_) (fun hb => ?_)
  · show zwp 29 (78, [some (.inr (some (0, 0))), some (.inl x1), some (.inl x2), some (.inl x3), some (.inl x4)], [], (S, d)) Q
    replace h := h.2 (zne_t hb)
    refine zwp_blk 5 (c' := (85, [some (.inr (some (0, 0))), some (.inl x1), some (.inl x3), some (.inl x3), some (.inl x4)], [.inl x3, .inr (some (10, 0))], (S, d))) rfl ?_
    obtain ⟨j2, ej2, lj2, h⟩ := h
    refine zwp_aldx (n := 40) (k := 11) (pc' := 86) (ls := [some (.inr (some (0, 0))), some (.inl x1), some (.inl x3), some (.inl x3), some (.inl x4)]) (r := []) (t := (S, d)) rfl ej2 lj2 (by decide) (zok_11 lj2) ?_
    refine zwp_blk 2 (c' := (90, [some (.inr (some (0, 0))), some (.inl x1), some (.inl x3), some (.inl x3), some (.inl x4)], [.inl x1, .inr (some (12, j2))], (S, d))) rfl ?_
    exact zwp_call rfl h
  · show zwp 29 (75, [some (.inr (some (0, 0))), some (.inl x1), some (.inl x2), some (.inl x3), some (.inl x4)], [], (S, d)) Q
    replace h := h.1 (zne_f hb)
    refine zwp_blk 2 (c' := (101, [some (.inr (some (0, 0))), some (.inl x1), some (.inl x2), some (.inl x3), some (.inl x4)], [.inl x3], (S, d))) rfl ?_
    exact zwp_end rfl h
theorem w29_93 {S : zS} {d : Nat} {Q : zO → zT → Prop} {x1 : Int32} {x2 : Int32} {x3 : Int32} {x4 : Int32} {y0 : Int32} (h : zwp 29 (7, [some (.inr (some (0, 0))), some (.inl x1), some (.inl x2), some (.inl y0), some (.inl (x4 + nI 1))], [], (S, d)) Q) : zwp 29 (93, [some (.inr (some (0, 0))), some (.inl x1), some (.inl x2), some (.inl x3), some (.inl x4)], [.inl y0], (S, d)) Q := by
  refine zwp_blk 3 (c' := (7, [some (.inr (some (0, 0))), some (.inl x1), some (.inl x2), some (.inl y0), some (.inl (x4 + nI 1))], [], (S, d))) rfl ?_
  exact h
-- 30 PageKeeper.splitRoot
theorem w30_0 {S : zS} {d : Nat} {Q : zO → zT → Prop} {x1 : Int32} (h : (((S 4 0 0) + (nI 2)) ≤ (nI 40) → ∃ j1 : Nat, nI 0 = nI j1 ∧ j1 < 40 ∧ (zwp 70 (0, zent 70 [.inr (some (12, j1))], [], (S, d)) (zaf 30 40 [some (.inr (some (0, 0))), some (.inl x1), some (.inr (some (12, j1))), some (.inl (S 4 0 0)), some (.inl ((S 4 0 0) + (nI 1))), none, none] [] Q))) ∧ (¬ ((S 4 0 0) + (nI 2)) ≤ (nI 40) → Q (.inl (some (.inl (nI 0)))) (S, d))) : zwp 30 (0, [some (.inr (some (0, 0))), some (.inl x1), none, none, none, none, none], [], (S, d)) Q := by
  refine zwp_blk 5 (c' := (8, [some (.inr (some (0, 0))), some (.inl x1), none, none, none, none, none], [.inl (nI 40), .inl ((S 4 0 0) + (nI 2))], (S, d))) rfl ?_
  refine zwp_br rfl (fun hb => ?_) (fun hb => ?_)
  · show zwp 30 (13, [some (.inr (some (0, 0))), some (.inl x1), none, none, none, none, none], [], (S, d)) Q
    replace h := h.1 (of_decide_eq_true hb)
    refine zwp_blk 3 (c' := (18, [some (.inr (some (0, 0))), some (.inl x1), none, none, none, none, none], [.inl (nI 0), .inr (some (10, 0))], (S, d))) rfl ?_
    obtain ⟨j1, ej1, lj1, h⟩ := h
    refine zwp_aldx (n := 40) (k := 11) (pc' := 19) (ls := [some (.inr (some (0, 0))), some (.inl x1), none, none, none, none, none]) (r := []) (t := (S, d)) rfl ej1 lj1 (by decide) (zok_11 lj1) ?_
    refine zwp_blk 11 (c' := (37, [some (.inr (some (0, 0))), some (.inl x1), some (.inr (some (12, j1))), some (.inl (S 4 0 0)), some (.inl ((S 4 0 0) + (nI 1))), none, none], [.inr (some (12, j1))], (S, d))) rfl ?_
    exact zwp_call rfl h
  · show zwp 30 (11, [some (.inr (some (0, 0))), some (.inl x1), none, none, none, none, none], [], (S, d)) Q
    replace h := h.2 (of_decide_eq_false hb)
    refine zwp_blk 1 (c' := (12, [some (.inr (some (0, 0))), some (.inl x1), none, none, none, none, none], [.inl (nI 0)], (S, d))) rfl ?_
    exact zwp_end rfl h
theorem w30_40 {S : zS} {d : Nat} {Q : zO → zT → Prop} {x1 : Int32} {x2 : Nat} {x3 : Int32} {x4 : Int32} {y0 : Int32} (h : zwp 40 (0, zent 40 [.inr (some (1, 0))], [], (S, d)) (zaf 30 49 [some (.inr (some (0, 0))), some (.inl x1), some (.inr (some (12, x2))), some (.inl x3), some (.inl x4), some (.inl y0), none] [] Q)) : zwp 30 (40, [some (.inr (some (0, 0))), some (.inl x1), some (.inr (some (12, x2))), some (.inl x3), some (.inl x4), none, none], [.inl y0], (S, d)) Q := by
  refine zwp_blk 3 (c' := (46, [some (.inr (some (0, 0))), some (.inl x1), some (.inr (some (12, x2))), some (.inl x3), some (.inl x4), some (.inl y0), none], [.inr (some (1, 0))], (S, d))) rfl ?_
  exact zwp_call rfl h
theorem w30_49 {S : zS} {d : Nat} {Q : zO → zT → Prop} {x1 : Int32} {x2 : Nat} {x3 : Int32} {x4 : Int32} {x5 : Int32} (h : zwp 34 (0, zent 34 [.inr (some (0, 0)), .inl x3], [], (S, d)) (zaf 30 54 [some (.inr (some (0, 0))), some (.inl x1), some (.inr (some (12, x2))), some (.inl x3), some (.inl x4), some (.inl x5), none] [] Q)) : zwp 30 (49, [some (.inr (some (0, 0))), some (.inl x1), some (.inr (some (12, x2))), some (.inl x3), some (.inl x4), some (.inl x5), none], [], (S, d)) Q := by
  refine zwp_blk 2 (c' := (51, [some (.inr (some (0, 0))), some (.inl x1), some (.inr (some (12, x2))), some (.inl x3), some (.inl x4), some (.inl x5), none], [.inl x3, .inr (some (0, 0))], (S, d))) rfl ?_
  exact zwp_call rfl h
theorem w30_54 {S : zS} {d : Nat} {Q : zO → zT → Prop} {x1 : Int32} {x2 : Nat} {x3 : Int32} {x4 : Int32} {x5 : Int32} (h : zwp 39 (0, zent 39 [.inr (some (1, 0)), .inl (nI 3), .inl x3, .inl (nI 0), .inl (nI 0)], [], (S, d)) (zaf 30 65 [some (.inr (some (0, 0))), some (.inl x1), some (.inr (some (12, x2))), some (.inl x3), some (.inl x4), some (.inl x5), none] [] Q)) : zwp 30 (54, [some (.inr (some (0, 0))), some (.inl x1), some (.inr (some (12, x2))), some (.inl x3), some (.inl x4), some (.inl x5), none], [], (S, d)) Q := by
  refine zwp_blk 6 (c' := (62, [some (.inr (some (0, 0))), some (.inl x1), some (.inr (some (12, x2))), some (.inl x3), some (.inl x4), some (.inl x5), none], [.inl (nI 0), .inl (nI 0), .inl x3, .inl (nI 3), .inr (some (1, 0))], (S, d))) rfl ?_
  exact zwp_call rfl h
theorem w30_65 {S : zS} {d : Nat} {Q : zO → zT → Prop} {x1 : Int32} {x2 : Nat} {x3 : Int32} {x4 : Int32} {x5 : Int32} {y0 : Nat} (h : zwp 43 (0, zent 43 [.inr (some (3, y0)), .inr (some (12, x2)), .inl (nI 0)], [], (S, d)) (zaf 30 74 [some (.inr (some (0, 0))), some (.inl x1), some (.inr (some (12, x2))), some (.inl x3), some (.inl x4), some (.inl x5), some (.inr (some (3, y0)))] [] Q)) : zwp 30 (65, [some (.inr (some (0, 0))), some (.inl x1), some (.inr (some (12, x2))), some (.inl x3), some (.inl x4), some (.inl x5), none], [.inr (some (3, y0))], (S, d)) Q := by
  refine zwp_blk 4 (c' := (71, [some (.inr (some (0, 0))), some (.inl x1), some (.inr (some (12, x2))), some (.inl x3), some (.inl x4), some (.inl x5), some (.inr (some (3, y0)))], [.inl (nI 0), .inr (some (12, x2)), .inr (some (3, y0))], (S, d))) rfl ?_
  exact zwp_call rfl h
theorem w30_74 {S : zS} {d : Nat} {Q : zO → zT → Prop} {x1 : Int32} {x2 : Nat} {x3 : Int32} {x4 : Int32} {x5 : Int32} {x6 : Nat} (h : zwp 32 (0, zent 32 [.inr (some (0, 0)), .inr (some (3, x6))], [], (S, d)) (zaf 30 80 [some (.inr (some (0, 0))), some (.inl x1), some (.inr (some (12, x2))), some (.inl x3), some (.inl x4), some (.inl x5), some (.inr (some (3, x6)))] [] Q)) : zwp 30 (74, [some (.inr (some (0, 0))), some (.inl x1), some (.inr (some (12, x2))), some (.inl x3), some (.inl x4), some (.inl x5), some (.inr (some (3, x6)))], [], (S, d)) Q := by
  refine zwp_blk 2 (c' := (77, [some (.inr (some (0, 0))), some (.inl x1), some (.inr (some (12, x2))), some (.inl x3), some (.inl x4), some (.inl x5), some (.inr (some (3, x6)))], [.inr (some (3, x6)), .inr (some (0, 0))], (S, d))) rfl ?_
  exact zwp_call rfl h
theorem w30_80 {S : zS} {d : Nat} {Q : zO → zT → Prop} {x1 : Int32} {x2 : Nat} {x3 : Int32} {x4 : Int32} {x5 : Int32} {x6 : Nat} (h : zwp 34 (0, zent 34 [.inr (some (0, 0)), .inl x4], [], (S, d)) (zaf 30 86 [some (.inr (some (0, 0))), some (.inl x1), some (.inr (some (12, x2))), some (.inl x3), some (.inl x4), some (.inl x5), some (.inr (some (3, x6)))] [] Q)) : zwp 30 (80, [some (.inr (some (0, 0))), some (.inl x1), some (.inr (some (12, x2))), some (.inl x3), some (.inl x4), some (.inl x5), some (.inr (some (3, x6)))], [], (S, d)) Q := by
  refine zwp_blk 2 (c' := (83, [some (.inr (some (0, 0))), some (.inl x1), some (.inr (some (12, x2))), some (.inl x3), some (.inl x4), some (.inl x5), some (.inr (some (3, x6)))], [.inl x4, .inr (some (0, 0))], (S, d))) rfl ?_
  exact zwp_call rfl h
theorem w30_86 {S : zS} {d : Nat} {Q : zO → zT → Prop} {x1 : Int32} {x2 : Nat} {x3 : Int32} {x4 : Int32} {x5 : Int32} {x6 : Nat} (h : zwp 39 (0, zent 39 [.inr (some (1, 0)), .inl (nI 3), .inl x4, .inl (nI 0), .inl (nI 0)], [], (S, d)) (zaf 30 98 [some (.inr (some (0, 0))), some (.inl x1), some (.inr (some (12, x2))), some (.inl x3), some (.inl x4), some (.inl x5), some (.inr (some (3, x6)))] [] Q)) : zwp 30 (86, [some (.inr (some (0, 0))), some (.inl x1), some (.inr (some (12, x2))), some (.inl x3), some (.inl x4), some (.inl x5), some (.inr (some (3, x6)))], [], (S, d)) Q := by
  refine zwp_blk 6 (c' := (95, [some (.inr (some (0, 0))), some (.inl x1), some (.inr (some (12, x2))), some (.inl x3), some (.inl x4), some (.inl x5), some (.inr (some (3, x6)))], [.inl (nI 0), .inl (nI 0), .inl x4, .inl (nI 3), .inr (some (1, 0))], (S, d))) rfl ?_
  exact zwp_call rfl h
theorem w30_98 {S : zS} {d : Nat} {Q : zO → zT → Prop} {x1 : Int32} {x2 : Nat} {x3 : Int32} {x4 : Int32} {x5 : Int32} {x6 : Nat} {y0 : Nat} (h : zwp 43 (0, zent 43 [.inr (some (3, y0)), .inr (some (12, x2)), .inl (nI 2)], [], (S, d)) (zaf 30 107 [some (.inr (some (0, 0))), some (.inl x1), some (.inr (some (12, x2))), some (.inl x3), some (.inl x4), some (.inl x5), some (.inr (some (3, y0)))] [] Q)) : zwp 30 (98, [some (.inr (some (0, 0))), some (.inl x1), some (.inr (some (12, x2))), some (.inl x3), some (.inl x4), some (.inl x5), some (.inr (some (3, x6)))], [.inr (some (3, y0))], (S, d)) Q := by
  refine zwp_blk 4 (c' := (104, [some (.inr (some (0, 0))), some (.inl x1), some (.inr (some (12, x2))), some (.inl x3), some (.inl x4), some (.inl x5), some (.inr (some (3, y0)))], [.inl (nI 2), .inr (some (12, x2)), .inr (some (3, y0))], (S, d))) rfl ?_
  exact zwp_call rfl h
theorem w30_107 {S : zS} {d : Nat} {Q : zO → zT → Prop} {x1 : Int32} {x2 : Nat} {x3 : Int32} {x4 : Int32} {x5 : Int32} {x6 : Nat} (h : zwp 32 (0, zent 32 [.inr (some (0, 0)), .inr (some (3, x6))], [], (S, d)) (zaf 30 113 [some (.inr (some (0, 0))), some (.inl x1), some (.inr (some (12, x2))), some (.inl x3), some (.inl x4), some (.inl x5), some (.inr (some (3, x6)))] [] Q)) : zwp 30 (107, [some (.inr (some (0, 0))), some (.inl x1), some (.inr (some (12, x2))), some (.inl x3), some (.inl x4), some (.inl x5), some (.inr (some (3, x6)))], [], (S, d)) Q := by
  refine zwp_blk 2 (c' := (110, [some (.inr (some (0, 0))), some (.inl x1), some (.inr (some (12, x2))), some (.inl x3), some (.inl x4), some (.inl x5), some (.inr (some (3, x6)))], [.inr (some (3, x6)), .inr (some (0, 0))], (S, d))) rfl ?_
  exact zwp_call rfl h
theorem w30_113 {S : zS} {d : Nat} {Q : zO → zT → Prop} {x1 : Int32} {x2 : Nat} {x3 : Int32} {x4 : Int32} {x5 : Int32} {x6 : Nat} (h : zwp 33 (0, zent 33 [.inr (some (0, 0)), .inl (nI 0)], [], (S, d)) (zaf 30 118 [some (.inr (some (0, 0))), some (.inl x1), some (.inr (some (12, x2))), some (.inl x3), some (.inl x4), some (.inl x5), some (.inr (some (3, x6)))] [] Q)) : zwp 30 (113, [some (.inr (some (0, 0))), some (.inl x1), some (.inr (some (12, x2))), some (.inl x3), some (.inl x4), some (.inl x5), some (.inr (some (3, x6)))], [], (S, d)) Q := by
  refine zwp_blk 2 (c' := (115, [some (.inr (some (0, 0))), some (.inl x1), some (.inr (some (12, x2))), some (.inl x3), some (.inl x4), some (.inl x5), some (.inr (some (3, x6)))], [.inl (nI 0), .inr (some (0, 0))], (S, d))) rfl ?_
  exact zwp_call rfl h
theorem w30_118 {S : zS} {d : Nat} {Q : zO → zT → Prop} {x1 : Int32} {x2 : Nat} {x3 : Int32} {x4 : Int32} {x5 : Int32} {x6 : Nat} (h : ∃ j1 : Nat, nI 0 = nI j1 ∧ j1 < 40 ∧ (zwp 39 (0, zent 39 [.inr (some (1, 0)), .inl (nI 3), .inl (nI 0), .inl (S 705 j1 0), .inl (nI 0)], [], (S, d)) (zaf 30 137 [some (.inr (some (0, 0))), some (.inl x1), some (.inr (some (12, x2))), some (.inl x3), some (.inl x4), some (.inl x5), some (.inr (some (3, x6)))] [] Q))) : zwp 30 (118, [some (.inr (some (0, 0))), some (.inl x1), some (.inr (some (12, x2))), some (.inl x3), some (.inl x4), some (.inl x5), some (.inr (some (3, x6)))], [], (S, d)) Q := by
  refine zwp_blk 7 (c' := (129, [some (.inr (some (0, 0))), some (.inl x1), some (.inr (some (12, x2))), some (.inl x3), some (.inl x4), some (.inl x5), some (.inr (some (3, x6)))], [.inl (nI 0), .inr (some (10, 0)), .inl (nI 0), .inl (nI 3), .inr (some (1, 0))], (S, d))) rfl ?_
  obtain ⟨j1, ej1, lj1, h⟩ := h
  refine zwp_aldx (n := 40) (k := 11) (pc' := 130) (ls := [some (.inr (some (0, 0))), some (.inl x1), some (.inr (some (12, x2))), some (.inl x3), some (.inl x4), some (.inl x5), some (.inr (some (3, x6)))]) (r := [.inl (nI 0), .inl (nI 3), .inr (some (1, 0))]) (t := (S, d)) rfl ej1 lj1 (by decide) (zok_11 lj1) ?_
  refine zwp_blk 2 (c' := (134, [some (.inr (some (0, 0))), some (.inl x1), some (.inr (some (12, x2))), some (.inl x3), some (.inl x4), some (.inl x5), some (.inr (some (3, x6)))], [.inl (nI 0), .inl (S 705 j1 0), .inl (nI 0), .inl (nI 3), .inr (some (1, 0))], (S, d))) rfl ?_
  exact zwp_call rfl h
theorem w30_137 {S : zS} {d : Nat} {Q : zO → zT → Prop} {x1 : Int32} {x2 : Nat} {x3 : Int32} {x4 : Int32} {x5 : Int32} {x6 : Nat} {y0 : Nat} (h : zwp 44 (0, zent 44 [.inr (some (3, y0)), .inl x3, .inl x5, .inl x4], [], (S, d)) (zaf 30 149 [some (.inr (some (0, 0))), some (.inl x1), some (.inr (some (12, x2))), some (.inl x3), some (.inl x4), some (.inl x5), some (.inr (some (3, y0)))] [] Q)) : zwp 30 (137, [some (.inr (some (0, 0))), some (.inl x1), some (.inr (some (12, x2))), some (.inl x3), some (.inl x4), some (.inl x5), some (.inr (some (3, x6)))], [.inr (some (3, y0))], (S, d)) Q := by
  refine zwp_blk 5 (c' := (146, [some (.inr (some (0, 0))), some (.inl x1), some (.inr (some (12, x2))), some (.inl x3), some (.inl x4), some (.inl x5), some (.inr (some (3, y0)))], [.inl x4, .inl x5, .inl x3, .inr (some (3, y0))], (S, d))) rfl ?_
  exact zwp_call rfl h
theorem w30_149 {S : zS} {d : Nat} {Q : zO → zT → Prop} {x1 : Int32} {x2 : Nat} {x3 : Int32} {x4 : Int32} {x5 : Int32} {x6 : Nat} (h : zwp 32 (0, zent 32 [.inr (some (0, 0)), .inr (some (3, x6))], [], (S, d)) (zaf 30 155 [some (.inr (some (0, 0))), some (.inl x1), some (.inr (some (12, x2))), some (.inl x3), some (.inl x4), some (.inl x5), some (.inr (some (3, x6)))] [] Q)) : zwp 30 (149, [some (.inr (some (0, 0))), some (.inl x1), some (.inr (some (12, x2))), some (.inl x3), some (.inl x4), some (.inl x5), some (.inr (some (3, x6)))], [], (S, d)) Q := by
  refine zwp_blk 2 (c' := (152, [some (.inr (some (0, 0))), some (.inl x1), some (.inr (some (12, x2))), some (.inl x3), some (.inl x4), some (.inl x5), some (.inr (some (3, x6)))], [.inr (some (3, x6)), .inr (some (0, 0))], (S, d))) rfl ?_
  exact zwp_call rfl h
theorem w30_155 {S : zS} {d : Nat} {Q : zO → zT → Prop} {x1 : Int32} {x2 : Nat} {x3 : Int32} {x4 : Int32} {x5 : Int32} {x6 : Nat} (h : (x5 ≤ x1 → Q (.inl (some (.inl x4))) (S, d)) ∧ (¬ x5 ≤ x1 → Q (.inl (some (.inl x3))) (S, d))) : zwp 30 (155, [some (.inr (some (0, 0))), some (.inl x1), some (.inr (some (12, x2))), some (.inl x3), some (.inl x4), some (.inl x5), some (.inr (some (3, x6)))], [], (S, d)) Q := by
  refine zwp_blk 2 (c' := (158, [some (.inr (some (0, 0))), some (.inl x1), some (.inr (some (12, x2))), some (.inl x3), some (.inl x4), some (.inl x5), some (.inr (some (3, x6)))], [.inl x5, .inl x1], (S, d))) rfl ?_
  refine zwp_br rfl (fun hb => ?_) (fun hb => ?_)
  · show zwp 30 (165, [some (.inr (some (0, 0))), some (.inl x1), some (.inr (some (12, x2))), some (.inl x3), some (.inl x4), some (.inl x5), some (.inr (some (3, x6)))], [], (S, d)) Q
    replace h := h.1 (of_decide_eq_true hb)
    refine zwp_blk 1 (c' := (167, [some (.inr (some (0, 0))), some (.inl x1), some (.inr (some (12, x2))), some (.inl x3), some (.inl x4), some (.inl x5), some (.inr (some (3, x6)))], [.inl x4], (S, d))) rfl ?_
    exact zwp_end rfl h
  · show zwp 30 (161, [some (.inr (some (0, 0))), some (.inl x1), some (.inr (some (12, x2))), some (.inl x3), some (.inl x4), some (.inl x5), some (.inr (some (3, x6)))], [], (S, d)) Q
    replace h := h.2 (of_decide_eq_false hb)
    refine zwp_blk 2 (c' := (167, [some (.inr (some (0, 0))), some (.inl x1), some (.inr (some (12, x2))), some (.inl x3), some (.inl x4), some (.inl x5), some (.inr (some (3, x6)))], [.inl x3], (S, d))) rfl ?_
    exact zwp_end rfl h
-- 31 PageKeeper.splitBelow
theorem w31_0 {S : zS} {d : Nat} {Q : zO → zT → Prop} {x1 : Int32} {x2 : Int32} {x3 : Int32} (h : (((S 4 0 0) + (nI 1)) ≤ (nI 40) → ∃ j1 : Nat, x2 = nI j1 ∧ j1 < 40 ∧ (zwp 70 (0, zent 70 [.inr (some (12, j1))], [], (S, d)) (zaf 31 35 [some (.inr (some (0, 0))), some (.inl x1), some (.inl x2), some (.inl x3), some (.inr (some (12, j1))), some (.inl (S 4 0 0)), none, none] [] Q))) ∧ (¬ ((S 4 0 0) + (nI 1)) ≤ (nI 40) → Q (.inl (some (.inl x2))) (S, d))) : zwp 31 (0, [some (.inr (some (0, 0))), some (.inl x1), some (.inl x2), some (.inl x3), none, none, none, none], [], (S, d)) Q := by
  refine zwp_blk 5 (c' := (8, [some (.inr (some (0, 0))), some (.inl x1), some (.inl x2), some (.inl x3), none, none, none, none], [.inl (nI 40), .inl ((S 4 0 0) + (nI 1))], (S, d))) rfl ?_
  refine zwp_br rfl (fun hb => ?_) (fun hb => ?_)
  · show zwp 31 (13, [some (.inr (some (0, 0))), some (.inl x1), some (.inl x2), some (.inl x3), none, none, none, none], [], (S, d)) Q
    replace h := h.1 (of_decide_eq_true hb)
    refine zwp_blk 3 (c' := (18, [some (.inr (some (0, 0))), some (.inl x1), some (.inl x2), some (.inl x3), none, none, none, none], [.inl x2, .inr (some (10, 0))], (S, d))) rfl ?_
    obtain ⟨j1, ej1, lj1, h⟩ := h
    refine zwp_aldx (n := 40) (k := 11) (pc' := 19) (ls := [some (.inr (some (0, 0))), some (.inl x1), some (.inl x2), some (.inl x3), none, none, none, none]) (r := []) (t := (S, d)) rfl ej1 lj1 (by decide) (zok_11 lj1) ?_
    refine zwp_blk 6 (c' := (32, [some (.inr (some (0, 0))), some (.inl x1), some (.inl x2), some (.inl x3), some (.inr (some (12, j1))), some (.inl (S 4 0 0)), none, none], [.inr (some (12, j1))], (S, d))) rfl ?_
    exact zwp_call rfl h
  · show zwp 31 (11, [some (.inr (some (0, 0))), some (.inl x1), some (.inl x2), some (.inl x3), none, none, none, none], [], (S, d)) Q
    replace h := h.2 (of_decide_eq_false hb)
    refine zwp_blk 1 (c' := (12, [some (.inr (some (0, 0))), some (.inl x1), some (.inl x2), some (.inl x3), none, none, none, none], [.inl x2], (S, d))) rfl ?_
    exact zwp_end rfl h
theorem w31_35 {S : zS} {d : Nat} {Q : zO → zT → Prop} {x1 : Int32} {x2 : Int32} {x3 : Int32} {x4 : Nat} {x5 : Int32} {y0 : Int32} (h : zwp 40 (0, zent 40 [.inr (some (1, 0))], [], (S, d)) (zaf 31 44 [some (.inr (some (0, 0))), some (.inl x1), some (.inl x2), some (.inl x3), some (.inr (some (12, x4))), some (.inl x5), some (.inl y0), none] [] Q)) : zwp 31 (35, [some (.inr (some (0, 0))), some (.inl x1), some (.inl x2), some (.inl x3), some (.inr (some (12, x4))), some (.inl x5), none, none], [.inl y0], (S, d)) Q := by
  refine zwp_blk 3 (c' := (41, [some (.inr (some (0, 0))), some (.inl x1), some (.inl x2), some (.inl x3), some (.inr (some (12, x4))), some (.inl x5), some (.inl y0), none], [.inr (some (1, 0))], (S, d))) rfl ?_
  exact zwp_call rfl h
theorem w31_44 {S : zS} {d : Nat} {Q : zO → zT → Prop} {x1 : Int32} {x2 : Int32} {x3 : Int32} {x4 : Nat} {x5 : Int32} {x6 : Int32} (h : zwp 34 (0, zent 34 [.inr (some (0, 0)), .inl x5], [], (S, d)) (zaf 31 50 [some (.inr (some (0, 0))), some (.inl x1), some (.inl x2), some (.inl x3), some (.inr (some (12, x4))), some (.inl x5), some (.inl x6), none] [] Q)) : zwp 31 (44, [some (.inr (some (0, 0))), some (.inl x1), some (.inl x2), some (.inl x3), some (.inr (some (12, x4))), some (.inl x5), some (.inl x6), none], [], (S, d)) Q := by
  refine zwp_blk 2 (c' := (47, [some (.inr (some (0, 0))), some (.inl x1), some (.inl x2), some (.inl x3), some (.inr (some (12, x4))), some (.inl x5), some (.inl x6), none], [.inl x5, .inr (some (0, 0))], (S, d))) rfl ?_
  exact zwp_call rfl h
theorem w31_50 {S : zS} {d : Nat} {Q : zO → zT → Prop} {x1 : Int32} {x2 : Int32} {x3 : Int32} {x4 : Nat} {x5 : Int32} {x6 : Int32} (h : zwp 39 (0, zent 39 [.inr (some (1, 0)), .inl (nI 3), .inl x5, .inl (nI 0), .inl (nI 0)], [], (S, d)) (zaf 31 62 [some (.inr (some (0, 0))), some (.inl x1), some (.inl x2), some (.inl x3), some (.inr (some (12, x4))), some (.inl x5), some (.inl x6), none] [] Q)) : zwp 31 (50, [some (.inr (some (0, 0))), some (.inl x1), some (.inl x2), some (.inl x3), some (.inr (some (12, x4))), some (.inl x5), some (.inl x6), none], [], (S, d)) Q := by
  refine zwp_blk 6 (c' := (59, [some (.inr (some (0, 0))), some (.inl x1), some (.inl x2), some (.inl x3), some (.inr (some (12, x4))), some (.inl x5), some (.inl x6), none], [.inl (nI 0), .inl (nI 0), .inl x5, .inl (nI 3), .inr (some (1, 0))], (S, d))) rfl ?_
  exact zwp_call rfl h
theorem w31_62 {S : zS} {d : Nat} {Q : zO → zT → Prop} {x1 : Int32} {x2 : Int32} {x3 : Int32} {x4 : Nat} {x5 : Int32} {x6 : Int32} {y0 : Nat} (h : zwp 43 (0, zent 43 [.inr (some (3, y0)), .inr (some (12, x4)), .inl (nI 2)], [], (S, d)) (zaf 31 72 [some (.inr (some (0, 0))), some (.inl x1), some (.inl x2), some (.inl x3), some (.inr (some (12, x4))), some (.inl x5), some (.inl x6), some (.inr (some (3, y0)))] [] Q)) : zwp 31 (62, [some (.inr (some (0, 0))), some (.inl x1), some (.inl x2), some (.inl x3), some (.inr (some (12, x4))), some (.inl x5), some (.inl x6), none], [.inr (some (3, y0))], (S, d)) Q := by
  refine zwp_blk 4 (c' := (69, [some (.inr (some (0, 0))), some (.inl x1), some (.inl x2), some (.inl x3), some (.inr (some (12, x4))), some (.inl x5), some (.inl x6), some (.inr (some (3, y0)))], [.inl (nI 2), .inr (some (12, x4)), .inr (some (3, y0))], (S, d))) rfl ?_
  exact zwp_call rfl h
theorem w31_72 {S : zS} {d : Nat} {Q : zO → zT → Prop} {x1 : Int32} {x2 : Int32} {x3 : Int32} {x4 : Nat} {x5 : Int32} {x6 : Int32} {x7 : Nat} (h : zwp 32 (0, zent 32 [.inr (some (0, 0)), .inr (some (3, x7))], [], (S, d)) (zaf 31 78 [some (.inr (some (0, 0))), some (.inl x1), some (.inl x2), some (.inl x3), some (.inr (some (12, x4))), some (.inl x5), some (.inl x6), some (.inr (some (3, x7)))] [] Q)) : zwp 31 (72, [some (.inr (some (0, 0))), some (.inl x1), some (.inl x2), some (.inl x3), some (.inr (some (12, x4))), some (.inl x5), some (.inl x6), some (.inr (some (3, x7)))], [], (S, d)) Q := by
  refine zwp_blk 2 (c' := (75, [some (.inr (some (0, 0))), some (.inl x1), some (.inl x2), some (.inl x3), some (.inr (some (12, x4))), some (.inl x5), some (.inl x6), some (.inr (some (3, x7)))], [.inr (some (3, x7)), .inr (some (0, 0))], (S, d))) rfl ?_
  exact zwp_call rfl h
theorem w31_78 {S : zS} {d : Nat} {Q : zO → zT → Prop} {x1 : Int32} {x2 : Int32} {x3 : Int32} {x4 : Nat} {x5 : Int32} {x6 : Int32} {x7 : Nat} (h : zwp 33 (0, zent 33 [.inr (some (0, 0)), .inl x2], [], (S, d)) (zaf 31 83 [some (.inr (some (0, 0))), some (.inl x1), some (.inl x2), some (.inl x3), some (.inr (some (12, x4))), some (.inl x5), some (.inl x6), some (.inr (some (3, x7)))] [] Q)) : zwp 31 (78, [some (.inr (some (0, 0))), some (.inl x1), some (.inl x2), some (.inl x3), some (.inr (some (12, x4))), some (.inl x5), some (.inl x6), some (.inr (some (3, x7)))], [], (S, d)) Q := by
  refine zwp_blk 2 (c' := (80, [some (.inr (some (0, 0))), some (.inl x1), some (.inl x2), some (.inl x3), some (.inr (some (12, x4))), some (.inl x5), some (.inl x6), some (.inr (some (3, x7)))], [.inl x2, .inr (some (0, 0))], (S, d))) rfl ?_
  exact zwp_call rfl h
theorem w31_83 {S : zS} {d : Nat} {Q : zO → zT → Prop} {x1 : Int32} {x2 : Int32} {x3 : Int32} {x4 : Nat} {x5 : Int32} {x6 : Int32} {x7 : Nat} (h : ∃ j1 : Nat, x2 = nI j1 ∧ j1 < 40 ∧ (zwp 39 (0, zent 39 [.inr (some (1, 0)), .inl (nI 4), .inl x2, .inl (S 705 j1 0), .inl (nI 0)], [], (S, d)) (zaf 31 103 [some (.inr (some (0, 0))), some (.inl x1), some (.inl x2), some (.inl x3), some (.inr (some (12, x4))), some (.inl x5), some (.inl x6), some (.inr (some (3, x7)))] [.inr (some (0, 0))] Q))) : zwp 31 (83, [some (.inr (some (0, 0))), some (.inl x1), some (.inl x2), some (.inl x3), some (.inr (some (12, x4))), some (.inl x5), some (.inl x6), some (.inr (some (3, x7)))], [], (S, d)) Q := by
  refine zwp_blk 8 (c' := (95, [some (.inr (some (0, 0))), some (.inl x1), some (.inl x2), some (.inl x3), some (.inr (some (12, x4))), some (.inl x5), some (.inl x6), some (.inr (some (3, x7)))], [.inl x2, .inr (some (10, 0)), .inl x2, .inl (nI 4), .inr (some (1, 0)), .inr (some (0, 0))], (S, d))) rfl ?_
  obtain ⟨j1, ej1, lj1, h⟩ := h
  refine zwp_aldx (n := 40) (k := 11) (pc' := 96) (ls := [some (.inr (some (0, 0))), some (.inl x1), some (.inl x2), some (.inl x3), some (.inr (some (12, x4))), some (.inl x5), some (.inl x6), some (.inr (some (3, x7)))]) (r := [.inl x2, .inl (nI 4), .inr (some (1, 0)), .inr (some (0, 0))]) (t := (S, d)) rfl ej1 lj1 (by decide) (zok_11 lj1) ?_
  refine zwp_blk 2 (c' := (100, [some (.inr (some (0, 0))), some (.inl x1), some (.inl x2), some (.inl x3), some (.inr (some (12, x4))), some (.inl x5), some (.inl x6), some (.inr (some (3, x7)))], [.inl (nI 0), .inl (S 705 j1 0), .inl x2, .inl (nI 4), .inr (some (1, 0)), .inr (some (0, 0))], (S, d))) rfl ?_
  exact zwp_call rfl h
theorem w31_103 {S : zS} {d : Nat} {Q : zO → zT → Prop} {x1 : Int32} {x2 : Int32} {x3 : Int32} {x4 : Nat} {x5 : Int32} {x6 : Int32} {x7 : Nat} {y0 : Nat} (h : zwp 32 (0, zent 32 [.inr (some (0, 0)), .inr (some (3, y0))], [], (S, d)) (zaf 31 106 [some (.inr (some (0, 0))), some (.inl x1), some (.inl x2), some (.inl x3), some (.inr (some (12, x4))), some (.inl x5), some (.inl x6), some (.inr (some (3, x7)))] [] Q)) : zwp 31 (103, [some (.inr (some (0, 0))), some (.inl x1), some (.inl x2), some (.inl x3), some (.inr (some (12, x4))), some (.inl x5), some (.inl x6), some (.inr (some (3, x7)))], [.inr (some (3, y0)), .inr (some (0, 0))], (S, d)) Q := by
  exact zwp_call rfl h
theorem w31_106 {S : zS} {d : Nat} {Q : zO → zT → Prop} {x1 : Int32} {x2 : Int32} {x3 : Int32} {x4 : Nat} {x5 : Int32} {x6 : Int32} {x7 : Nat} (h : zwp 33 (0, zent 33 [.inr (some (0, 0)), .inl x1], [], (S, d)) (zaf 31 111 [some (.inr (some (0, 0))), some (.inl x1), some (.inl x2), some (.inl x3), some (.inr (some (12, x4))), some (.inl x5), some (.inl x6), some (.inr (some (3, x7)))] [] Q)) : zwp 31 (106, [some (.inr (some (0, 0))), some (.inl x1), some (.inl x2), some (.inl x3), some (.inr (some (12, x4))), some (.inl x5), some (.inl x6), some (.inr (some (3, x7)))], [], (S, d)) Q := by
  refine zwp_blk 2 (c' := (108, [some (.inr (some (0, 0))), some (.inl x1), some (.inl x2), some (.inl x3), some (.inr (some (12, x4))), some (.inl x5), some (.inl x6), some (.inr (some (3, x7)))], [.inl x1, .inr (some (0, 0))], (S, d))) rfl ?_
  exact zwp_call rfl h
theorem w31_111 {S : zS} {d : Nat} {Q : zO → zT → Prop} {x1 : Int32} {x2 : Int32} {x3 : Int32} {x4 : Nat} {x5 : Int32} {x6 : Int32} {x7 : Nat} (h : ∃ j1 : Nat, x1 = nI j1 ∧ j1 < 40 ∧ (zwp 39 (0, zent 39 [.inr (some (1, 0)), .inl (nI 5), .inl x1, .inl (S 705 j1 0), .inl (nI 0)], [], (S, d)) (zaf 31 130 [some (.inr (some (0, 0))), some (.inl x1), some (.inl x2), some (.inl x3), some (.inr (some (12, x4))), some (.inl x5), some (.inl x6), some (.inr (some (3, x7)))] [] Q))) : zwp 31 (111, [some (.inr (some (0, 0))), some (.inl x1), some (.inl x2), some (.inl x3), some (.inr (some (12, x4))), some (.inl x5), some (.inl x6), some (.inr (some (3, x7)))], [], (S, d)) Q := by
  refine zwp_blk 7 (c' := (122, [some (.inr (some (0, 0))), some (.inl x1), some (.inl x2), some (.inl x3), some (.inr (some (12, x4))), some (.inl x5), some (.inl x6), some (.inr (some (3, x7)))], [.inl x1, .inr (some (10, 0)), .inl x1, .inl (nI 5), .inr (some (1, 0))], (S, d))) rfl ?_
  obtain ⟨j1, ej1, lj1, h⟩ := h
  refine zwp_aldx (n := 40) (k := 11) (pc' := 123) (ls := [some (.inr (some (0, 0))), some (.inl x1), some (.inl x2), some (.inl x3), some (.inr (some (12, x4))), some (.inl x5), some (.inl x6), some (.inr (some (3, x7)))]) (r := [.inl x1, .inl (nI 5), .inr (some (1, 0))]) (t := (S, d)) rfl ej1 lj1 (by decide) (zok_11 lj1) ?_
  refine zwp_blk 2 (c' := (127, [some (.inr (some (0, 0))), some (.inl x1), some (.inl x2), some (.inl x3), some (.inr (some (12, x4))), some (.inl x5), some (.inl x6), some (.inr (some (3, x7)))], [.inl (nI 0), .inl (S 705 j1 0), .inl x1, .inl (nI 5), .inr (some (1, 0))], (S, d))) rfl ?_
  exact zwp_call rfl h
theorem w31_130 {S : zS} {d : Nat} {Q : zO → zT → Prop} {x1 : Int32} {x2 : Int32} {x3 : Int32} {x4 : Nat} {x5 : Int32} {x6 : Int32} {x7 : Nat} {y0 : Nat} (h : zwp 45 (0, zent 45 [.inr (some (3, y0)), .inl x6, .inl x5, .inl x2], [], (S, d)) (zaf 31 142 [some (.inr (some (0, 0))), some (.inl x1), some (.inl x2), some (.inl x3), some (.inr (some (12, x4))), some (.inl x5), some (.inl x6), some (.inr (some (3, y0)))] [] Q)) : zwp 31 (130, [some (.inr (some (0, 0))), some (.inl x1), some (.inl x2), some (.inl x3), some (.inr (some (12, x4))), some (.inl x5), some (.inl x6), some (.inr (some (3, x7)))], [.inr (some (3, y0))], (S, d)) Q := by
  refine zwp_blk 5 (c' := (139, [some (.inr (some (0, 0))), some (.inl x1), some (.inl x2), some (.inl x3), some (.inr (some (12, x4))), some (.inl x5), some (.inl x6), some (.inr (some (3, y0)))], [.inl x2, .inl x5, .inl x6, .inr (some (3, y0))], (S, d))) rfl ?_
  exact zwp_call rfl h
theorem w31_142 {S : zS} {d : Nat} {Q : zO → zT → Prop} {x1 : Int32} {x2 : Int32} {x3 : Int32} {x4 : Nat} {x5 : Int32} {x6 : Int32} {x7 : Nat} (h : zwp 32 (0, zent 32 [.inr (some (0, 0)), .inr (some (3, x7))], [], (S, d)) (zaf 31 148 [some (.inr (some (0, 0))), some (.inl x1), some (.inl x2), some (.inl x3), some (.inr (some (12, x4))), some (.inl x5), some (.inl x6), some (.inr (some (3, x7)))] [] Q)) : zwp 31 (142, [some (.inr (some (0, 0))), some (.inl x1), some (.inl x2), some (.inl x3), some (.inr (some (12, x4))), some (.inl x5), some (.inl x6), some (.inr (some (3, x7)))], [], (S, d)) Q := by
  refine zwp_blk 2 (c' := (145, [some (.inr (some (0, 0))), some (.inl x1), some (.inl x2), some (.inl x3), some (.inr (some (12, x4))), some (.inl x5), some (.inl x6), some (.inr (some (3, x7)))], [.inr (some (3, x7)), .inr (some (0, 0))], (S, d))) rfl ?_
  exact zwp_call rfl h
theorem w31_148 {S : zS} {d : Nat} {Q : zO → zT → Prop} {x1 : Int32} {x2 : Int32} {x3 : Int32} {x4 : Nat} {x5 : Int32} {x6 : Int32} {x7 : Nat} (h : (x6 ≤ x3 → Q (.inl (some (.inl x5))) (S, d)) ∧ (¬ x6 ≤ x3 → Q (.inl (some (.inl x2))) (S, d))) : zwp 31 (148, [some (.inr (some (0, 0))), some (.inl x1), some (.inl x2), some (.inl x3), some (.inr (some (12, x4))), some (.inl x5), some (.inl x6), some (.inr (some (3, x7)))], [], (S, d)) Q := by
  refine zwp_blk 2 (c' := (151, [some (.inr (some (0, 0))), some (.inl x1), some (.inl x2), some (.inl x3), some (.inr (some (12, x4))), some (.inl x5), some (.inl x6), some (.inr (some (3, x7)))], [.inl x6, .inl x3], (S, d))) rfl ?_
  refine zwp_br rfl (fun hb => ?_) (fun hb => ?_)
  · show zwp 31 (158, [some (.inr (some (0, 0))), some (.inl x1), some (.inl x2), some (.inl x3), some (.inr (some (12, x4))), some (.inl x5), some (.inl x6), some (.inr (some (3, x7)))], [], (S, d)) Q
    replace h := h.1 (of_decide_eq_true hb)
    refine zwp_blk 1 (c' := (160, [some (.inr (some (0, 0))), some (.inl x1), some (.inl x2), some (.inl x3), some (.inr (some (12, x4))), some (.inl x5), some (.inl x6), some (.inr (some (3, x7)))], [.inl x5], (S, d))) rfl ?_
    exact zwp_end rfl h
  · show zwp 31 (154, [some (.inr (some (0, 0))), some (.inl x1), some (.inl x2), some (.inl x3), some (.inr (some (12, x4))), some (.inl x5), some (.inl x6), some (.inr (some (3, x7)))], [], (S, d)) Q
    replace h := h.2 (of_decide_eq_false hb)
    refine zwp_blk 2 (c' := (160, [some (.inr (some (0, 0))), some (.inl x1), some (.inl x2), some (.inl x3), some (.inr (some (12, x4))), some (.inl x5), some (.inl x6), some (.inr (some (3, x7)))], [.inl x2], (S, d))) rfl ?_
    exact zwp_end rfl h
-- 32 PageKeeper.enforce
theorem w32_0 {S : zS} {d : Nat} {Q : zO → zT → Prop} {x1 : Nat} (h : ((S 194 x1 0) = (zint (-1)) → Q (.inl none) (S, d)) ∧ (¬ (S 194 x1 0) = (zint (-1)) → ∃ j1 : Nat, S 194 x1 0 = nI j1 ∧ j1 < 40 ∧ (((S 193 x1 0) = nI 1 → zwp 71 (0, zent 71 [.inr (some (12, j1)), .inl (S 200 x1 0), .inl (S 201 x1 0)], [], (S, d)) (zaf 32 71 [some (.inr (some (0, 0))), some (.inr (some (3, x1))), some (.inr (some (11, j1)))] [] Q)) ∧ ((S 193 x1 0) = nI 2 → zwp 72 (0, zent 72 [.inr (some (12, j1)), .inl (S 200 x1 0)], [], (S, d)) (zaf 32 85 [some (.inr (some (0, 0))), some (.inr (some (3, x1))), some (.inr (some (11, j1)))] [] Q)) ∧ ((S 193 x1 0) = nI 3 → zwp 65 (0, zent 65 [.inr (some (12, j1)), .inr (some (3, x1))], [], (S, d)) (zaf 32 96 [some (.inr (some (0, 0))), some (.inr (some (3, x1))), some (.inr (some (11, j1)))] [] Q)) ∧ ((S 193 x1 0) = nI 4 → zwp 32 (132, [some (.inr (some (0, 0))), some (.inr (some (3, x1))), some (.inr (some (11, j1)))], [], (zu S 769 j1 0 (nI 2), d)) Q) ∧ ((S 193 x1 0) = nI 5 → zwp 73 (0, zent 73 [.inr (some (12, j1)), .inl (S 201 x1 0), .inl (S 200 x1 0), .inl (S 205 x1 0)], [], (S, d)) (zaf 32 129 [some (.inr (some (0, 0))), some (.inr (some (3, x1))), some (.inr (some (11, j1)))] [] Q)) ∧ (¬ (S 193 x1 0) = nI 1 → ¬ (S 193 x1 0) = nI 2 → ¬ (S 193 x1 0) = nI 3 → ¬ (S 193 x1 0) = nI 4 → ¬ (S 193 x1 0) = nI 5 → zwp 32 (132, [some (.inr (some (0, 0))), some (.inr (some (3, x1))), some (.inr (some (11, j1)))], [], (S, d)) Q)))) : zwp 32 (0, [some (.inr (some (0, 0))), some (.inr (some (3, x1))), none], [], (S, d)) Q := by
  refine zwp_blk 3 (c' := (5, [some (.inr (some (0, 0))), some (.inr (some (3, x1))), none], [.inl (zint (-1)), .inl (S 194 x1 0)], (S, d))) rfl ?_
  refine zwp_br rfl (fun hb => ?_) (fun hb => ?_)
  · show zwp 32 (9, [some (.inr (some (0, 0))), some (.inr (some (3, x1))), none], [], (S, d)) Q
    replace h := h.2 (zne_t hb)
    refine zwp_blk 4 (c' := (17, [some (.inr (some (0, 0))), some (.inr (some (3, x1))), none], [.inl (S 194 x1 0), .inr (some (10, 0))], (S, d))) rfl ?_
    obtain ⟨j1, ej1, lj1, h⟩ := h
    refine zwp_aldx (n := 40) (k := 11) (pc' := 18) (ls := [some (.inr (some (0, 0))), some (.inr (some (3, x1))), none]) (r := []) (t := (S, d)) rfl ej1 lj1 (by decide) (zok_11 lj1) ?_
    refine zwp_blk 3 (c' := (23, [some (.inr (some (0, 0))), some (.inr (some (3, x1))), some (.inr (some (11, j1)))], [.inl (S 193 x1 0)], (S, d))) rfl ?_
    by_cases hs0 : (S 193 x1 0) = nI 1
    · refine zwp_sw (off := 33) (pc' := 56) (ls := [some (.inr (some (0, 0))), some (.inr (some (3, x1))), some (.inr (some (11, j1)))]) (r := []) (t := (S, d)) rfl (by rw [hs0]; decide +kernel) rfl ?_
      replace h := h.1 hs0
      refine zwp_blk 6 (c' := (68, [some (.inr (some (0, 0))), some (.inr (some (3, x1))), some (.inr (some (11, j1)))], [.inl (S 201 x1 0), .inl (S 200 x1 0), .inr (some (12, j1))], (S, d))) rfl ?_
      exact zwp_call rfl h
    by_cases hs1 : (S 193 x1 0) = nI 2
    · refine zwp_sw (off := 51) (pc' := 74) (ls := [some (.inr (some (0, 0))), some (.inr (some (3, x1))), some (.inr (some (11, j1)))]) (r := []) (t := (S, d)) rfl (by rw [hs1]; decide +kernel) rfl ?_
      replace h := h.2.1 hs1
      refine zwp_blk 4 (c' := (82, [some (.inr (some (0, 0))), some (.inr (some (3, x1))), some (.inr (some (11, j1)))], [.inl (S 200 x1 0), .inr (some (12, j1))], (S, d))) rfl ?_
      exact zwp_call rfl h
    by_cases hs2 : (S 193 x1 0) = nI 3
    · refine zwp_sw (off := 65) (pc' := 88) (ls := [some (.inr (some (0, 0))), some (.inr (some (3, x1))), some (.inr (some (11, j1)))]) (r := []) (t := (S, d)) rfl (by rw [hs2]; decide +kernel) rfl ?_
      replace h := h.2.2.1 hs2
      refine zwp_blk 3 (c' := (93, [some (.inr (some (0, 0))), some (.inr (some (3, x1))), some (.inr (some (11, j1)))], [.inr (some (3, x1)), .inr (some (12, j1))], (S, d))) rfl ?_
      exact zwp_call rfl h
    by_cases hs3 : (S 193 x1 0) = nI 4
    · refine zwp_sw (off := 76) (pc' := 99) (ls := [some (.inr (some (0, 0))), some (.inr (some (3, x1))), some (.inr (some (11, j1)))]) (r := []) (t := (S, d)) rfl (by rw [hs3]; decide +kernel) rfl ?_
      replace h := h.2.2.2.1 hs3
      refine zwp_blk 5 (c' := (132, [some (.inr (some (0, 0))), some (.inr (some (3, x1))), some (.inr (some (11, j1)))], [], (zu S 769 j1 0 (nI 2), d))) rfl ?_
      exact h
    by_cases hs4 : (S 193 x1 0) = nI 5
    · refine zwp_sw (off := 87) (pc' := 110) (ls := [some (.inr (some (0, 0))), some (.inr (some (3, x1))), some (.inr (some (11, j1)))]) (r := []) (t := (S, d)) rfl (by rw [hs4]; decide +kernel) rfl ?_
      replace h := h.2.2.2.2.1 hs4
      refine zwp_blk 8 (c' := (126, [some (.inr (some (0, 0))), some (.inr (some (3, x1))), some (.inr (some (11, j1)))], [.inl (S 205 x1 0), .inl (S 200 x1 0), .inl (S 201 x1 0), .inr (some (12, j1))], (S, d))) rfl ?_
      exact zwp_call rfl h
    refine zwp_sw (off := 109) (pc' := 132) (ls := [some (.inr (some (0, 0))), some (.inr (some (3, x1))), some (.inr (some (11, j1)))]) (r := []) (t := (S, d)) rfl (zsw_d (a := 1) (b := 5) rfl rfl (by intro k h1 h2; rcases (show k = 1 ∨ k = 2 ∨ k = 3 ∨ k = 4 ∨ k = 5 by omega) with rfl | rfl | rfl | rfl | rfl <;> assumption)) rfl ?_
    replace h := h.2.2.2.2.2 hs0 hs1 hs2 hs3 hs4
    exact h
  · show zwp 32 (8, [some (.inr (some (0, 0))), some (.inr (some (3, x1))), none], [], (S, d)) Q
    replace h := h.1 (zne_f hb)
    exact zwp_end rfl h
theorem w32_71 {S : zS} {d : Nat} {Q : zO → zT → Prop} {x1 : Nat} {x2 : Nat} (h : zwp 32 (132, [some (.inr (some (0, 0))), some (.inr (some (3, x1))), some (.inr (some (11, x2)))], [], (S, d)) Q) : zwp 32 (71, [some (.inr (some (0, 0))), some (.inr (some (3, x1))), some (.inr (some (11, x2)))], [], (S, d)) Q := by
  refine zwp_blk 1 (c' := (132, [some (.inr (some (0, 0))), some (.inr (some (3, x1))), some (.inr (some (11, x2)))], [], (S, d))) rfl ?_
  exact h
theorem w32_85 {S : zS} {d : Nat} {Q : zO → zT → Prop} {x1 : Nat} {x2 : Nat} (h : zwp 32 (132, [some (.inr (some (0, 0))), some (.inr (some (3, x1))), some (.inr (some (11, x2)))], [], (S, d)) Q) : zwp 32 (85, [some (.inr (some (0, 0))), some (.inr (some (3, x1))), some (.inr (some (11, x2)))], [], (S, d)) Q := by
  refine zwp_blk 1 (c' := (132, [some (.inr (some (0, 0))), some (.inr (some (3, x1))), some (.inr (some (11, x2)))], [], (S, d))) rfl ?_
  exact h
theorem w32_96 {S : zS} {d : Nat} {Q : zO → zT → Prop} {x1 : Nat} {x2 : Nat} (h : zwp 32 (132, [some (.inr (some (0, 0))), some (.inr (some (3, x1))), some (.inr (some (11, x2)))], [], (S, d)) Q) : zwp 32 (96, [some (.inr (some (0, 0))), some (.inr (some (3, x1))), some (.inr (some (11, x2)))], [], (S, d)) Q := by
  refine zwp_blk 1 (c' := (132, [some (.inr (some (0, 0))), some (.inr (some (3, x1))), some (.inr (some (11, x2)))], [], (S, d))) rfl ?_
  exact h
theorem w32_129 {S : zS} {d : Nat} {Q : zO → zT → Prop} {x1 : Nat} {x2 : Nat} (h : zwp 32 (132, [some (.inr (some (0, 0))), some (.inr (some (3, x1))), some (.inr (some (11, x2)))], [], (S, d)) Q) : zwp 32 (129, [some (.inr (some (0, 0))), some (.inr (some (3, x1))), some (.inr (some (11, x2)))], [], (S, d)) Q := by
  refine zwp_blk 1 (c' := (132, [some (.inr (some (0, 0))), some (.inr (some (3, x1))), some (.inr (some (11, x2)))], [], (S, d))) rfl ?_
  exact h
theorem w32_132 {S : zS} {d : Nat} {Q : zO → zT → Prop} {x1 : Nat} {x2 : Nat} (h : ((S 197 x1 0) = 0 → Q (.inl none) (zu (zu (zu S 705 x2 0 (S 192 x1 0)) 706 x2 0 ((S 706 x2 0) + (nI 1))) 4 0 0 (if S 4 0 0 < (S 194 x1 0) + (nI 1) then (S 194 x1 0) + (nI 1) else S 4 0 0), d)) ∧ (¬ (S 197 x1 0) = 0 → ∃ j1 : Nat, S 197 x1 0 = nI j1 ∧ j1 < 1145 ∧ (1 ≤ j1 ∧ j1 ≤ d) ∧ (Q (.inl none) (zu (zu (zu (zu S 705 x2 0 (S 192 x1 0)) 706 x2 0 ((S 706 x2 0) + (nI 1))) 4 0 0 (if S 4 0 0 < (S 194 x1 0) + (nI 1) then (S 194 x1 0) + (nI 1) else S 4 0 0)) 198 j1 0 (nI 1), d)))) : zwp 32 (132, [some (.inr (some (0, 0))), some (.inr (some (3, x1))), some (.inr (some (11, x2)))], [], (S, d)) Q := by
  refine zwp_blk 21 (c' := (171, [some (.inr (some (0, 0))), some (.inr (some (3, x1))), some (.inr (some (11, x2)))], [.inl (S 197 x1 0)], (zu (zu (zu S 705 x2 0 (S 192 x1 0)) 706 x2 0 ((S 706 x2 0) + (nI 1))) 4 0 0 (if S 4 0 0 < (S 194 x1 0) + (nI 1) then (S 194 x1 0) + (nI 1) else S 4 0 0), d))) rfl ?_
  refine zwp_br rfl (fun hb => ?_) (fun hb => ?_)
  · show zwp 32 (190, [some (.inr (some (0, 0))), some (.inr (some (3, x1))), some (.inr (some (11, x2)))], [], (zu (zu (zu S 705 x2 0 (S 192 x1 0)) 706 x2 0 ((S 706 x2 0) + (nI 1))) 4 0 0 (if S 4 0 0 < (S 194 x1 0) + (nI 1) then (S 194 x1 0) + (nI 1) else S 4 0 0), d)) Q
    replace h := h.1 (of_decide_eq_true hb)
    exact zwp_end rfl h
  · show zwp 32 (174, [some (.inr (some (0, 0))), some (.inr (some (3, x1))), some (.inr (some (11, x2)))], [], (zu (zu (zu S 705 x2 0 (S 192 x1 0)) 706 x2 0 ((S 706 x2 0) + (nI 1))) 4 0 0 (if S 4 0 0 < (S 194 x1 0) + (nI 1) then (S 194 x1 0) + (nI 1) else S 4 0 0), d)) Q
    replace h := h.2 (of_decide_eq_false hb)
    refine zwp_blk 5 (c' := (185, [some (.inr (some (0, 0))), some (.inr (some (3, x1))), some (.inr (some (11, x2)))], [.inl (S 197 x1 0), .inr (some (2, 0))], (zu (zu (zu S 705 x2 0 (S 192 x1 0)) 706 x2 0 ((S 706 x2 0) + (nI 1))) 4 0 0 (if S 4 0 0 < (S 194 x1 0) + (nI 1) then (S 194 x1 0) + (nI 1) else S 4 0 0), d))) rfl ?_
    obtain ⟨j1, ej1, lj1, h⟩ := h
    refine zwp_aldx (n := 1145) (k := 3) (pc' := 186) (ls := [some (.inr (some (0, 0))), some (.inr (some (3, x1))), some (.inr (some (11, x2)))]) (r := []) (t := (zu (zu (zu S 705 x2 0 (S 192 x1 0)) 706 x2 0 ((S 706 x2 0) + (nI 1))) 4 0 0 (if S 4 0 0 < (S 194 x1 0) + (nI 1) then (S 194 x1 0) + (nI 1) else S 4 0 0), d)) rfl ej1 lj1 (by decide) (zok_3 h.1) ?_
    replace h := h.2
    refine zwp_blk 1 (c' := (187, [some (.inr (some (0, 0))), some (.inr (some (3, x1))), some (.inr (some (11, x2)))], [.inl (nI 1), .inr (some (3, j1))], (zu (zu (zu S 705 x2 0 (S 192 x1 0)) 706 x2 0 ((S 706 x2 0) + (nI 1))) 4 0 0 (if S 4 0 0 < (S 194 x1 0) + (nI 1) then (S 194 x1 0) + (nI 1) else S 4 0 0), d))) rfl ?_
    refine zwp_grd (c' := (190, [some (.inr (some (0, 0))), some (.inr (some (3, x1))), some (.inr (some (11, x2)))], [], (zu (zu (zu (zu S 705 x2 0 (S 192 x1 0)) 706 x2 0 ((S 706 x2 0) + (nI 1))) 4 0 0 (if S 4 0 0 < (S 194 x1 0) + (nI 1) then (S 194 x1 0) + (nI 1) else S 4 0 0)) 198 j1 0 (nI 1), d))) rfl (by decide) ?_
    exact zwp_end rfl h
-- 33 PageKeeper.fix
theorem w33_0 {S : zS} {d : Nat} {Q : zO → zT → Prop} {x1 : Int32} (h : zwp 50 (0, zent 50 [.inr (some (4, 0)), .inl x1], [], (S, d)) (zaf 33 9 [some (.inr (some (0, 0))), some (.inl x1)] [.inr (some (0, 0))] Q)) : zwp 33 (0, [some (.inr (some (0, 0))), some (.inl x1)], [], (S, d)) Q := by
  refine zwp_blk 4 (c' := (6, [some (.inr (some (0, 0))), some (.inl x1)], [.inl x1, .inr (some (4, 0)), .inr (some (0, 0))], (S, d))) rfl ?_
  exact zwp_call rfl h
theorem w33_9 {S : zS} {d : Nat} {Q : zO → zT → Prop} {x1 : Int32} {y0 : Int32} (h : zwp 36 (0, zent 36 [.inr (some (0, 0)), .inl y0], [], (S, d)) (zaf 33 12 [some (.inr (some (0, 0))), some (.inl x1)] [] Q)) : zwp 33 (9, [some (.inr (some (0, 0))), some (.inl x1)], [.inl y0, .inr (some (0, 0))], (S, d)) Q := by
  exact zwp_call rfl h
theorem w33_12 {S : zS} {d : Nat} {Q : zO → zT → Prop} {x1 : Int32} {y0 : Int32} (h : zwp 48 (0, zent 48 [.inr (some (4, 0)), .inl x1], [], (S, d)) (zaf 33 21 [some (.inr (some (0, 0))), some (.inl x1)] [] Q)) : zwp 33 (12, [some (.inr (some (0, 0))), some (.inl x1)], [.inl y0], (S, d)) Q := by
  refine zwp_blk 4 (c' := (18, [some (.inr (some (0, 0))), some (.inl x1)], [.inl x1, .inr (some (4, 0))], (S, d))) rfl ?_
  exact zwp_call rfl h
theorem w33_21 {S : zS} {d : Nat} {Q : zO → zT → Prop} {x1 : Int32} {y0 : Int32} (h : (y0 = 0 → zwp 35 (0, zent 35 [.inr (some (0, 0)), .inl x1], [], (S, d)) (zaf 33 29 [some (.inr (some (0, 0))), some (.inl x1)] [] Q)) ∧ (¬ y0 = 0 → zwp 33 (29, [some (.inr (some (0, 0))), some (.inl x1)], [], (S, d)) Q)) : zwp 33 (21, [some (.inr (some (0, 0))), some (.inl x1)], [.inl y0], (S, d)) Q := by
  refine zwp_br rfl (fun hb => ?_) (fun hb => ?_)
  · show zwp 33 (29, [some (.inr (some (0, 0))), some (.inl x1)], [], (S, d)) Q
    replace h := h.2 (zne_t hb)
    exact h
  · show zwp 33 (24, [some (.inr (some (0, 0))), some (.inl x1)], [], (S, d)) Q
    replace h := h.1 (zne_f hb)
    refine zwp_blk 2 (c' := (26, [some (.inr (some (0, 0))), some (.inl x1)], [.inl x1, .inr (some (0, 0))], (S, d))) rfl ?_
    exact zwp_call rfl h
theorem w33_29 {S : zS} {d : Nat} {Q : zO → zT → Prop} {x1 : Int32} (h : zwp 51 (0, zent 51 [.inr (some (4, 0)), .inl x1], [], (S, d)) (zaf 33 37 [some (.inr (some (0, 0))), some (.inl x1)] [] Q)) : zwp 33 (29, [some (.inr (some (0, 0))), some (.inl x1)], [], (S, d)) Q := by
  refine zwp_blk 3 (c' := (34, [some (.inr (some (0, 0))), some (.inl x1)], [.inl x1, .inr (some (4, 0))], (S, d))) rfl ?_
  exact zwp_call rfl h
theorem w33_37 {S : zS} {d : Nat} {Q : zO → zT → Prop} {x1 : Int32} (h : Q (.inl none) (S, d)) : zwp 33 (37, [some (.inr (some (0, 0))), some (.inl x1)], [], (S, d)) Q := by
  exact zwp_end rfl h
-- 34 PageKeeper.fixNew
theorem w34_0 {S : zS} {d : Nat} {Q : zO → zT → Prop} {x1 : Int32} (h : zwp 50 (0, zent 50 [.inr (some (4, 0)), .inl x1], [], (S, d)) (zaf 34 9 [some (.inr (some (0, 0))), some (.inl x1)] [.inr (some (0, 0))] Q)) : zwp 34 (0, [some (.inr (some (0, 0))), some (.inl x1)], [], (S, d)) Q := by
  refine zwp_blk 4 (c' := (6, [some (.inr (some (0, 0))), some (.inl x1)], [.inl x1, .inr (some (4, 0)), .inr (some (0, 0))], (S, d))) rfl ?_
  exact zwp_call rfl h
theorem w34_9 {S : zS} {d : Nat} {Q : zO → zT → Prop} {x1 : Int32} {y0 : Int32} (h : zwp 36 (0, zent 36 [.inr (some (0, 0)), .inl y0], [], (S, d)) (zaf 34 12 [some (.inr (some (0, 0))), some (.inl x1)] [] Q)) : zwp 34 (9, [some (.inr (some (0, 0))), some (.inl x1)], [.inl y0, .inr (some (0, 0))], (S, d)) Q := by
  exact zwp_call rfl h
theorem w34_12 {S : zS} {d : Nat} {Q : zO → zT → Prop} {x1 : Int32} {y0 : Int32} (h : zwp 51 (0, zent 51 [.inr (some (4, 0)), .inl x1], [], (S, d)) (zaf 34 21 [some (.inr (some (0, 0))), some (.inl x1)] [] Q)) : zwp 34 (12, [some (.inr (some (0, 0))), some (.inl x1)], [.inl y0], (S, d)) Q := by
  refine zwp_blk 4 (c' := (18, [some (.inr (some (0, 0))), some (.inl x1)], [.inl x1, .inr (some (4, 0))], (S, d))) rfl ?_
  exact zwp_call rfl h
theorem w34_21 {S : zS} {d : Nat} {Q : zO → zT → Prop} {x1 : Int32} (h : Q (.inl none) (S, d)) : zwp 34 (21, [some (.inr (some (0, 0))), some (.inl x1)], [], (S, d)) Q := by
  exact zwp_end rfl h
-- 35 PageKeeper.read
theorem w35_0 {S : zS} {d : Nat} {Q : zO → zT → Prop} {x1 : Int32} (h : ∃ j1 : Nat, x1 = nI j1 ∧ j1 < 40 ∧ (((S 708 j1 0) = 0 → zwp 35 (57, [some (.inr (some (0, 0))), some (.inl x1), some (.inr (some (11, j1))), some (.inl (S 707 j1 0)), some (.inl (nI 0)), some (.inl (S 705 j1 0))], [], (zu S 8 0 0 ((S 8 0 0) + (nI 1)), d)) Q) ∧ (¬ (S 708 j1 0) = 0 → zwp 35 (57, [some (.inr (some (0, 0))), some (.inl x1), some (.inr (some (11, j1))), some (.inl (if S 709 j1 0 < nI 0 then nI 0 else S 709 j1 0)), some (.inl (nI 0)), some (.inl (S 705 j1 0))], [], (zu (zu S 8 0 0 ((S 8 0 0) + (nI 1))) 11 0 0 ((S 11 0 0) + (nI 1)), d)) Q))) : zwp 35 (0, [some (.inr (some (0, 0))), some (.inl x1), none, none, none, none], [], (S, d)) Q := by
  refine zwp_blk 3 (c' := (5, [some (.inr (some (0, 0))), some (.inl x1), none, none, none, none], [.inl x1, .inr (some (10, 0))], (S, d))) rfl ?_
  obtain ⟨j1, ej1, lj1, h⟩ := h
  refine zwp_aldx (n := 40) (k := 11) (pc' := 6) (ls := [some (.inr (some (0, 0))), some (.inl x1), none, none, none, none]) (r := []) (t := (S, d)) rfl ej1 lj1 (by decide) (zok_11 lj1) ?_
  refine zwp_blk 12 (c' := (26, [some (.inr (some (0, 0))), some (.inl x1), some (.inr (some (11, j1))), some (.inl (S 707 j1 0)), none, none], [.inl (S 708 j1 0)], (zu S 8 0 0 ((S 8 0 0) + (nI 1)), d))) rfl ?_
  refine zwp_br rfl (fun hb => ?_) (fun hb => ?_)
  · show zwp 35 (48, [some (.inr (some (0, 0))), some (.inl x1), some (.inr (some (11, j1))), some (.inl (S 707 j1 0)), none, none], [], (zu S 8 0 0 ((S 8 0 0) + (nI 1)), d)) Q
    replace h := h.1 (of_decide_eq_true hb)
    refine zwp_blk 5 (c' := (57, [some (.inr (some (0, 0))), some (.inl x1), some (.inr (some (11, j1))), some (.inl (S 707 j1 0)), some (.inl (nI 0)), some (.inl (S 705 j1 0))], [], (zu S 8 0 0 ((S 8 0 0) + (nI 1)), d))) rfl ?_
    exact h
  · show zwp 35 (29, [some (.inr (some (0, 0))), some (.inl x1), some (.inr (some (11, j1))), some (.inl (S 707 j1 0)), none, none], [], (zu S 8 0 0 ((S 8 0 0) + (nI 1)), d)) Q
    replace h := h.2 (of_decide_eq_false hb)
    refine zwp_blk 16 (c' := (57, [some (.inr (some (0, 0))), some (.inl x1), some (.inr (some (11, j1))), some (.inl (if S 709 j1 0 < nI 0 then nI 0 else S 709 j1 0)), some (.inl (nI 0)), some (.inl (S 705 j1 0))], [], (zu (zu S 8 0 0 ((S 8 0 0) + (nI 1))) 11 0 0 ((S 11 0 0) + (nI 1)), d))) rfl ?_
    exact h
theorem w35_57 {S : zS} {d : Nat} {Q : zO → zT → Prop} {x1 : Int32} {x2 : Nat} {x3 : Int32} {x4 : Int32} {x5 : Int32} (h : (x5 ≤ x3 → Q (.inl none) (zu S 10 0 0 ((S 10 0 0) + x4), d)) ∧ (¬ x5 ≤ x3 → ((S 706 x2 0) ≤ x4 → Q (.inl none) (zu S 10 0 0 ((S 10 0 0) + x4), d)) ∧ (¬ (S 706 x2 0) ≤ x4 → ∃ j1 : Nat, x5 = nI j1 ∧ j1 < 1145 ∧ (1 ≤ j1 ∧ j1 ≤ d) ∧ (zwp 35 (57, [some (.inr (some (0, 0))), some (.inl x1), some (.inr (some (11, x2))), some (.inl x3), some (.inl (x4 + nI 1)), some (.inl (S 195 j1 0))], [], (S, d)) Q)))) : zwp 35 (57, [some (.inr (some (0, 0))), some (.inl x1), some (.inr (some (11, x2))), some (.inl x3), some (.inl x4), some (.inl x5)], [], (S, d)) Q := by
  refine zwp_blk 2 (c' := (60, [some (.inr (some (0, 0))), some (.inl x1), some (.inr (some (11, x2))), some (.inl x3), some (.inl x4), some (.inl x5)], [.inl x3, .inl x5], (S, d))) rfl ?_
  refine zwp_br rfl (fun hb => ?_) (fun hb => ?_)
  · show zwp 35 (93, [some (.inr (some (0, 0))), some (.inl x1), some (.inr (some (11, x2))), some (.inl x3), some (.inl x4), some (.inl x5)], [], (S, d)) Q
    replace h := h.1 (of_decide_eq_true hb)
    refine zwp_blk 6 (c' := (104, [some (.inr (some (0, 0))), some (.inl x1), some (.inr (some (11, x2))), some (.inl x3), some (.inl x4), some (.inl x5)], [], (zu S 10 0 0 ((S 10 0 0) + x4), d))) rfl ?_
    exact zwp_end rfl h
  · show zwp 35 (63, [some (.inr (some (0, 0))), some (.inl x1), some (.inr (some (11, x2))), some (.inl x3), some (.inl x4), some (.inl x5)], [], (S, d)) Q
    replace h := h.2 (of_decide_eq_false hb)
    refine zwp_blk 3 (c' := (69, [some (.inr (some (0, 0))), some (.inl x1), some (.inr (some (11, x2))), some (.inl x3), some (.inl x4), some (.inl x5)], [.inl (S 706 x2 0), .inl x4], (S, d))) rfl ?_
    refine zwp_br rfl (fun hb => ?_) (fun hb => ?_)
    · show zwp 35 (93, [some (.inr (some (0, 0))), some (.inl x1), some (.inr (some (11, x2))), some (.inl x3), some (.inl x4), some (.inl x5)], [], (S, d)) Q
      replace h := h.1 (of_decide_eq_true hb)
      refine zwp_blk 6 (c' := (104, [some (.inr (some (0, 0))), some (.inl x1), some (.inr (some (11, x2))), some (.inl x3), some (.inl x4), some (.inl x5)], [], (zu S 10 0 0 ((S 10 0 0) + x4), d))) rfl ?_
      exact zwp_end rfl h
    · show zwp 35 (72, [some (.inr (some (0, 0))), some (.inl x1), some (.inr (some (11, x2))), some (.inl x3), some (.inl x4), some (.inl x5)], [], (S, d)) Q
      replace h := h.2 (of_decide_eq_false hb)
      refine zwp_blk 5 (c' := (84, [some (.inr (some (0, 0))), some (.inl x1), some (.inr (some (11, x2))), some (.inl x3), some (.inl (x4 + nI 1)), some (.inl x5)], [.inl x5, .inr (some (2, 0))], (S, d))) rfl ?_
      obtain ⟨j1, ej1, lj1, h⟩ := h
      refine zwp_aldx (n := 1145) (k := 3) (pc' := 85) (ls := [some (.inr (some (0, 0))), some (.inl x1), some (.inr (some (11, x2))), some (.inl x3), some (.inl (x4 + nI 1)), some (.inl x5)]) (r := []) (t := (S, d)) rfl ej1 lj1 (by decide) (zok_3 h.1) ?_
      replace h := h.2
      refine zwp_blk 3 (c' := (57, [some (.inr (some (0, 0))), some (.inl x1), some (.inr (some (11, x2))), some (.inl x3), some (.inl (x4 + nI 1)), some (.inl (S 195 j1 0))], [], (S, d))) rfl ?_
      exact h
-- 36 PageKeeper.writeIfNewer
theorem w36_0 {S : zS} {d : Nat} {Q : zO → zT → Prop} {x1 : Int32} (h : (x1 = (zint (-1)) → Q (.inl (some (.inl (nI 0)))) (S, d)) ∧ (¬ x1 = (zint (-1)) → ∃ j1 : Nat, x1 = nI j1 ∧ j1 < 40 ∧ (∃ j2 : Nat, x1 = nI j2 ∧ j2 < 40 ∧ (((S 707 j2 0) < (S 705 j1 0) → ∃ j3 : Nat, x1 = nI j3 ∧ j3 < 40 ∧ (zwp 41 (0, zent 41 [.inr (some (1, 0)), .inl (S 705 j3 0)], [], (S, d)) (zaf 36 46 [some (.inr (some (0, 0))), some (.inl x1), some (.inr (some (11, j3)))] [] Q))) ∧ (¬ (S 707 j2 0) < (S 705 j1 0) → Q (.inl (some (.inl (nI 0)))) (S, d)))))) : zwp 36 (0, [some (.inr (some (0, 0))), some (.inl x1), none], [], (S, d)) Q := by
  refine zwp_blk 2 (c' := (2, [some (.inr (some (0, 0))), some (.inl x1), none], [.inl (zint (-1)), .inl x1], (S, d))) rfl ?_
  refine zwp_br rfl (fun hb => ?_) (fun hb => ?_)
  · show zwp 36 (26, [some (.inr (some (0, 0))), some (.inl x1), none], [], (S, d)) Q
    replace h := h.1 (of_decide_eq_true hb)
    refine zwp_blk 1 (c' := (27, [some (.inr (some (0, 0))), some (.inl x1), none], [.inl (nI 0)], (S, d))) rfl ?_
    exact zwp_ret01 (x := nI 0) rfl (by decide) h
  · show zwp 36 (5, [some (.inr (some (0, 0))), some (.inl x1), none], [], (S, d)) Q
    replace h := h.2 (of_decide_eq_false hb)
    refine zwp_blk 3 (c' := (10, [some (.inr (some (0, 0))), some (.inl x1), none], [.inl x1, .inr (some (10, 0))], (S, d))) rfl ?_
    obtain ⟨j1, ej1, lj1, h⟩ := h
    refine zwp_aldx (n := 40) (k := 11) (pc' := 11) (ls := [some (.inr (some (0, 0))), some (.inl x1), none]) (r := []) (t := (S, d)) rfl ej1 lj1 (by decide) (zok_11 lj1) ?_
    refine zwp_blk 4 (c' := (19, [some (.inr (some (0, 0))), some (.inl x1), none], [.inl x1, .inr (some (10, 0)), .inl (S 705 j1 0)], (S, d))) rfl ?_
    obtain ⟨j2, ej2, lj2, h⟩ := h
    refine zwp_aldx (n := 40) (k := 11) (pc' := 20) (ls := [some (.inr (some (0, 0))), some (.inl x1), none]) (r := [.inl (S 705 j1 0)]) (t := (S, d)) rfl ej2 lj2 (by decide) (zok_11 lj2) ?_
    refine zwp_blk 1 (c' := (23, [some (.inr (some (0, 0))), some (.inl x1), none], [.inl (S 707 j2 0), .inl (S 705 j1 0)], (S, d))) rfl ?_
    refine zwp_br rfl (fun hb => ?_) (fun hb => ?_)
    · show zwp 36 (28, [some (.inr (some (0, 0))), some (.inl x1), none], [], (S, d)) Q
      replace h := h.1 (of_decide_eq_true hb)
      refine zwp_blk 3 (c' := (33, [some (.inr (some (0, 0))), some (.inl x1), none], [.inl x1, .inr (some (10, 0))], (S, d))) rfl ?_
      obtain ⟨j3, ej3, lj3, h⟩ := h
      refine zwp_aldx (n := 40) (k := 11) (pc' := 34) (ls := [some (.inr (some (0, 0))), some (.inl x1), none]) (r := []) (t := (S, d)) rfl ej3 lj3 (by decide) (zok_11 lj3) ?_
      refine zwp_blk 5 (c' := (43, [some (.inr (some (0, 0))), some (.inl x1), some (.inr (some (11, j3)))], [.inl (S 705 j3 0), .inr (some (1, 0))], (S, d))) rfl ?_
      exact zwp_call rfl h
    · show zwp 36 (26, [some (.inr (some (0, 0))), some (.inl x1), none], [], (S, d)) Q
      replace h := h.2 (of_decide_eq_false hb)
      refine zwp_blk 1 (c' := (27, [some (.inr (some (0, 0))), some (.inl x1), none], [.inl (nI 0)], (S, d))) rfl ?_
      exact zwp_ret01 (x := nI 0) rfl (by decide) h
theorem w36_46 {S : zS} {d : Nat} {Q : zO → zT → Prop} {x1 : Int32} {x2 : Nat} (h : Q (.inl (some (.inl (nI 1)))) (zu (zu (zu S 707 x2 0 (S 705 x2 0)) 708 x2 0 (nI 0)) 9 0 0 ((S 9 0 0) + (nI 1)), d)) : zwp 36 (46, [some (.inr (some (0, 0))), some (.inl x1), some (.inr (some (11, x2)))], [], (S, d)) Q := by
  refine zwp_blk 6 (c' := (56, [some (.inr (some (0, 0))), some (.inl x1), some (.inr (some (11, x2)))], [.inl (nI 0), .inr (some (11, x2))], (zu S 707 x2 0 (S 705 x2 0), d))) rfl ?_
  refine zwp_grd (c' := (59, [some (.inr (some (0, 0))), some (.inl x1), some (.inr (some (11, x2)))], [], (zu (zu S 707 x2 0 (S 705 x2 0)) 708 x2 0 (nI 0), d))) rfl (by decide) ?_
  refine zwp_blk 7 (c' := (70, [some (.inr (some (0, 0))), some (.inl x1), some (.inr (some (11, x2)))], [.inl (nI 1)], (zu (zu (zu S 707 x2 0 (S 705 x2 0)) 708 x2 0 (nI 0)) 9 0 0 ((S 9 0 0) + (nI 1)), d))) rfl ?_
  exact zwp_ret01 (x := nI 1) rfl (by decide) h
-- 37 PageKeeper.replayLog
theorem w37_0 {S : zS} {d : Nat} {Q : zO → zT → Prop}  (h : zwp 37 (2, [some (.inr (some (0, 0))), some (.inl (nI 0))], [], (S, d)) Q) : zwp 37 (0, [some (.inr (some (0, 0))), none], [], (S, d)) Q := by
  refine zwp_blk 2 (c' := (2, [some (.inr (some (0, 0))), some (.inl (nI 0))], [], (S, d))) rfl ?_
  exact h
theorem w37_2 {S : zS} {d : Nat} {Q : zO → zT → Prop} {x1 : Int32} (h : ((nI 40) ≤ x1 → zwp 37 (30, [some (.inr (some (0, 0))), some (.inl (nI 1))], [], (zu S 4 0 0 (nI 1), d)) Q) ∧ (¬ (nI 40) ≤ x1 → ∃ j1 : Nat, x1 = nI j1 ∧ j1 < 40 ∧ (zwp 62 (0, zent 62 [.inr (some (11, j1))], [], (S, d)) (zaf 37 17 [some (.inr (some (0, 0))), some (.inl x1)] [] Q)))) : zwp 37 (2, [some (.inr (some (0, 0))), some (.inl x1)], [], (S, d)) Q := by
  refine zwp_blk 2 (c' := (5, [some (.inr (some (0, 0))), some (.inl x1)], [.inl (nI 40), .inl x1], (S, d))) rfl ?_
  refine zwp_br rfl (fun hb => ?_) (fun hb => ?_)
  · show zwp 37 (23, [some (.inr (some (0, 0))), some (.inl x1)], [], (S, d)) Q
    replace h := h.1 (of_decide_eq_true hb)
    refine zwp_blk 5 (c' := (30, [some (.inr (some (0, 0))), some (.inl (nI 1))], [], (zu S 4 0 0 (nI 1), d))) rfl ?_
    exact h
  · show zwp 37 (8, [some (.inr (some (0, 0))), some (.inl x1)], [], (S, d)) Q
    replace h := h.2 (of_decide_eq_false hb)
    refine zwp_blk 3 (c' := (13, [some (.inr (some (0, 0))), some (.inl x1)], [.inl x1, .inr (some (10, 0))], (S, d))) rfl ?_
    obtain ⟨j1, ej1, lj1, h⟩ := h
    refine zwp_aldx (n := 40) (k := 11) (pc' := 14) (ls := [some (.inr (some (0, 0))), some (.inl x1)]) (r := []) (t := (S, d)) rfl ej1 lj1 (by decide) (zok_11 lj1) ?_
    exact zwp_call rfl h
theorem w37_17 {S : zS} {d : Nat} {Q : zO → zT → Prop} {x1 : Int32} (h : zwp 37 (2, [some (.inr (some (0, 0))), some (.inl (x1 + nI 1))], [], (S, d)) Q) : zwp 37 (17, [some (.inr (some (0, 0))), some (.inl x1)], [], (S, d)) Q := by
  refine zwp_blk 2 (c' := (2, [some (.inr (some (0, 0))), some (.inl (x1 + nI 1))], [], (S, d))) rfl ?_
  exact h
theorem w37_30 {S : zS} {d : Nat} {Q : zO → zT → Prop} {x1 : Int32} (h : ((S 65 0 0) < x1 → Q (.inl none) (S, d)) ∧ (¬ (S 65 0 0) < x1 → ∃ j1 : Nat, x1 = nI j1 ∧ j1 < 1145 ∧ (1 ≤ j1 ∧ j1 ≤ d) ∧ (∃ j2 : Nat, x1 = nI j2 ∧ j2 < 1145 ∧ (1 ≤ j2 ∧ j2 ≤ d) ∧ (zwp 32 (0, zent 32 [.inr (some (0, 0)), .inr (some (3, j2))], [], (zu S 198 j1 0 (nI 0), d)) (zaf 37 67 [some (.inr (some (0, 0))), some (.inl x1)] [] Q))))) : zwp 37 (30, [some (.inr (some (0, 0))), some (.inl x1)], [], (S, d)) Q := by
  refine zwp_blk 4 (c' := (38, [some (.inr (some (0, 0))), some (.inl x1)], [.inl (S 65 0 0), .inl x1], (S, d))) rfl ?_
  refine zwp_br rfl (fun hb => ?_) (fun hb => ?_)
  · show zwp 37 (73, [some (.inr (some (0, 0))), some (.inl x1)], [], (S, d)) Q
    replace h := h.1 (of_decide_eq_true hb)
    exact zwp_end rfl h
  · show zwp 37 (41, [some (.inr (some (0, 0))), some (.inl x1)], [], (S, d)) Q
    replace h := h.2 (of_decide_eq_false hb)
    refine zwp_blk 4 (c' := (49, [some (.inr (some (0, 0))), some (.inl x1)], [.inl x1, .inr (some (2, 0))], (S, d))) rfl ?_
    obtain ⟨j1, ej1, lj1, h⟩ := h
    refine zwp_aldx (n := 1145) (k := 3) (pc' := 50) (ls := [some (.inr (some (0, 0))), some (.inl x1)]) (r := []) (t := (S, d)) rfl ej1 lj1 (by decide) (zok_3 h.1) ?_
    replace h := h.2
    refine zwp_blk 1 (c' := (51, [some (.inr (some (0, 0))), some (.inl x1)], [.inl (nI 0), .inr (some (3, j1))], (S, d))) rfl ?_
    refine zwp_grd (c' := (54, [some (.inr (some (0, 0))), some (.inl x1)], [], (zu S 198 j1 0 (nI 0), d))) rfl (by decide) ?_
    refine zwp_blk 5 (c' := (63, [some (.inr (some (0, 0))), some (.inl x1)], [.inl x1, .inr (some (2, 0)), .inr (some (0, 0))], (zu S 198 j1 0 (nI 0), d))) rfl ?_
    obtain ⟨j2, ej2, lj2, h⟩ := h
    refine zwp_aldx (n := 1145) (k := 3) (pc' := 64) (ls := [some (.inr (some (0, 0))), some (.inl x1)]) (r := [.inr (some (0, 0))]) (t := (zu S 198 j1 0 (nI 0), d)) rfl ej2 lj2 (by decide) (zok_3 h.1) ?_
    replace h := h.2
    exact zwp_call rfl h
theorem w37_67 {S : zS} {d : Nat} {Q : zO → zT → Prop} {x1 : Int32} (h : zwp 37 (30, [some (.inr (some (0, 0))), some (.inl (x1 + nI 1))], [], (S, d)) Q) : zwp 37 (67, [some (.inr (some (0, 0))), some (.inl x1)], [], (S, d)) Q := by
  refine zwp_blk 2 (c' := (30, [some (.inr (some (0, 0))), some (.inl (x1 + nI 1))], [], (S, d))) rfl ?_
  exact h
-- 38 PageKeeper.findLosers
theorem w38_0 {S : zS} {d : Nat} {Q : zO → zT → Prop}  (h : zwp 58 (0, zent 58 [.inr (some (6, 0))], [], (S, d)) (zaf 38 7 [some (.inr (some (0, 0))), none, none] [] Q)) : zwp 38 (0, [some (.inr (some (0, 0))), none, none], [], (S, d)) Q := by
  refine zwp_blk 2 (c' := (4, [some (.inr (some (0, 0))), none, none], [.inr (some (6, 0))], (S, d))) rfl ?_
  exact zwp_call rfl h
theorem w38_7 {S : zS} {d : Nat} {Q : zO → zT → Prop}  (h : zwp 38 (9, [some (.inr (some (0, 0))), some (.inl (nI 1)), none], [], (S, d)) Q) : zwp 38 (7, [some (.inr (some (0, 0))), none, none], [], (S, d)) Q := by
  refine zwp_blk 2 (c' := (9, [some (.inr (some (0, 0))), some (.inl (nI 1)), none], [], (S, d))) rfl ?_
  exact h
theorem w38_9 {S : zS} {d : Nat} {Q : zO → zT → Prop} {x1 : Int32} {x2 : Option zV} (h : ((S 65 0 0) < x1 → Q (.inl none) (S, d)) ∧ (¬ (S 65 0 0) < x1 → ∃ j1 : Nat, x1 = nI j1 ∧ j1 < 1145 ∧ (1 ≤ j1 ∧ j1 ≤ d) ∧ (zwp 46 (0, zent 46 [.inr (some (3, j1))], [], (S, d)) (zaf 38 34 [some (.inr (some (0, 0))), some (.inl x1), some (.inr (some (3, j1)))] [] Q)))) : zwp 38 (9, [some (.inr (some (0, 0))), some (.inl x1), x2], [], (S, d)) Q := by
  refine zwp_blk 4 (c' := (17, [some (.inr (some (0, 0))), some (.inl x1), x2], [.inl (S 65 0 0), .inl x1], (S, d))) rfl ?_
  refine zwp_br rfl (fun hb => ?_) (fun hb => ?_)
  · show zwp 38 (81, [some (.inr (some (0, 0))), some (.inl x1), x2], [], (S, d)) Q
    replace h := h.1 (of_decide_eq_true hb)
    exact zwp_end rfl h
  · show zwp 38 (20, [some (.inr (some (0, 0))), some (.inl x1), x2], [], (S, d)) Q
    replace h := h.2 (of_decide_eq_false hb)
    refine zwp_blk 4 (c' := (28, [some (.inr (some (0, 0))), some (.inl x1), x2], [.inl x1, .inr (some (2, 0))], (S, d))) rfl ?_
    obtain ⟨j1, ej1, lj1, h⟩ := h
    refine zwp_aldx (n := 1145) (k := 3) (pc' := 29) (ls := [some (.inr (some (0, 0))), some (.inl x1), x2]) (r := []) (t := (S, d)) rfl ej1 lj1 (by decide) (zok_3 h.1) ?_
    replace h := h.2
    refine zwp_blk 2 (c' := (31, [some (.inr (some (0, 0))), some (.inl x1), some (.inr (some (3, j1)))], [.inr (some (3, j1))], (S, d))) rfl ?_
    exact zwp_call rfl h
theorem w38_34 {S : zS} {d : Nat} {Q : zO → zT → Prop} {x1 : Int32} {x2 : Nat} {y0 : Int32} (h : (y0 = 0 → ((S 194 x2 0) = (zint (-1)) → zwp 59 (0, zent 59 [.inr (some (6, 0)), .inl (S 196 x2 0)], [], (S, d)) (zaf 38 75 [some (.inr (some (0, 0))), some (.inl x1), some (.inr (some (3, x2)))] [] Q)) ∧ (¬ (S 194 x2 0) = (zint (-1)) → zwp 38 (75, [some (.inr (some (0, 0))), some (.inl x1), some (.inr (some (3, x2)))], [], (S, d)) Q)) ∧ (¬ y0 = 0 → ∃ j1 : Nat, S 200 x2 0 = nI j1 ∧ j1 < 40 ∧ (zwp 38 (75, [some (.inr (some (0, 0))), some (.inl x1), some (.inr (some (3, x2)))], [], (zu S 576 0 j1 ((S 196 x2 0)), d)) Q))) : zwp 38 (34, [some (.inr (some (0, 0))), some (.inl x1), some (.inr (some (3, x2)))], [.inl y0], (S, d)) Q := by
  refine zwp_br rfl (fun hb => ?_) (fun hb => ?_)
  · show zwp 38 (56, [some (.inr (some (0, 0))), some (.inl x1), some (.inr (some (3, x2)))], [], (S, d)) Q
    replace h := h.1 (of_decide_eq_true hb)
    refine zwp_blk 3 (c' := (61, [some (.inr (some (0, 0))), some (.inl x1), some (.inr (some (3, x2)))], [.inl (zint (-1)), .inl (S 194 x2 0)], (S, d))) rfl ?_
    refine zwp_br rfl (fun hb => ?_) (fun hb => ?_)
    · show zwp 38 (75, [some (.inr (some (0, 0))), some (.inl x1), some (.inr (some (3, x2)))], [], (S, d)) Q
      replace h := h.2 (zne_t hb)
      exact h
    · show zwp 38 (64, [some (.inr (some (0, 0))), some (.inl x1), some (.inr (some (3, x2)))], [], (S, d)) Q
      replace h := h.1 (zne_f hb)
      refine zwp_blk 4 (c' := (72, [some (.inr (some (0, 0))), some (.inl x1), some (.inr (some (3, x2)))], [.inl (S 196 x2 0), .inr (some (6, 0))], (S, d))) rfl ?_
      exact zwp_call rfl h
  · show zwp 38 (37, [some (.inr (some (0, 0))), some (.inl x1), some (.inr (some (3, x2)))], [], (S, d)) Q
    replace h := h.2 (of_decide_eq_false hb)
    refine zwp_blk 7 (c' := (52, [some (.inr (some (0, 0))), some (.inl x1), some (.inr (some (3, x2)))], [.inl (S 196 x2 0), .inl (S 200 x2 0), .inr (some (9, 0))], (S, d))) rfl ?_
    obtain ⟨j1, ej1, lj1, h⟩ := h
    refine zwp_stx (n := 40) (cd := 576) (i := 0) (v := (S 196 x2 0)) (pc' := 53) (ls := [some (.inr (some (0, 0))), some (.inl x1), some (.inr (some (3, x2)))]) (r := []) (t := (S, d)) rfl ej1 lj1 (by decide) ?_
    refine zwp_blk 1 (c' := (75, [some (.inr (some (0, 0))), some (.inl x1), some (.inr (some (3, x2)))], [], (zu S 576 0 j1 ((S 196 x2 0)), d))) rfl ?_
    exact h
theorem w38_75 {S : zS} {d : Nat} {Q : zO → zT → Prop} {x1 : Int32} {x2 : Nat} (h : zwp 38 (9, [some (.inr (some (0, 0))), some (.inl (x1 + nI 1)), some (.inr (some (3, x2)))], [], (S, d)) Q) : zwp 38 (75, [some (.inr (some (0, 0))), some (.inl x1), some (.inr (some (3, x2)))], [], (S, d)) Q := by
  refine zwp_blk 2 (c' := (9, [some (.inr (some (0, 0))), some (.inl (x1 + nI 1)), some (.inr (some (3, x2)))], [], (S, d))) rfl ?_
  exact h
