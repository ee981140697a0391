/-! The reference's calls that look; damage, flush, backup. -/
abbrev pmc : Nat → Nat → Prop := fun f i => f = 1024 ∨ pmm f i
section RV
variable {S : zS} {d ck : Nat} {A : aSt}
theorem lkM_c {v : Int32} (hl : lkM S ck A) : lkM (zu S 1024 0 0 v) ck A := lkM_fr (fun f i j h => zu_f _ _ (fun z => by rw [z] at h; have h : 1024 = 1025 ∨ 1024 = 1026 ∨ 1024 = 1036 ∨ 1024 = 1038 ∨ (1043 ≤ 1024 ∧ 1024 ≤ 1047) ∨ (1088 ≤ 1024 ∧ 1024 ≤ 1920) := h; omega)) hl
theorem pgs_pos {lg : Nat → aRec} : ∀ n, 1 ≤ pgs lg n
  | 0 => Nat.le_refl _
  | n + 1 => by
    have := pgs_pos (lg := lg) n
    unfold pgs
    split
    · exact Nat.le_trans this (Nat.le_max_left _ _)
    · exact this
theorem r115 {x : Int32} (hl : lkM S ck A) (hM : gM A ≤ 40) : zwp 115 (0, zent 115 [.inr (some (16, 0)), .inl x], [], (S, d)) (fun o t => ∃ S', o = .inl (some (.inl (aDamage A x).1)) ∧ t = (S', d) ∧ zfr S S' pmc ∧ S' 1024 0 0 = nI 0 ∧ lkM S' ck (aDamage A x).2) := by
  unfold aDamage
  have hl1 := lkM_c (v := nI 0) hl
  have f1 : ∀ f i j, f ≠ 1024 → zu S 1024 0 0 (nI 0) f i j = S f i j := fun f i j h => zu_f _ _ h
  have c1 : zu S 1024 0 0 (nI 0) 1024 0 0 = nI 0 := zu_self _ _ _ _ _
  refine w115_0 ?_
  generalize zu S 1024 0 0 (nI 0) = S1 at hl1 f1 c1
  have hm := hl1.m
  rcases ixc (n := gM A) (by omega) x with ⟨j, hj, rfl⟩ | hx
  · rw [ifp_y (by omega) hj, nI_clamp (by omega)]
    refine zwp_mono (r112y hm (by omega) hj) (fun o t h => ?_)
    obtain ⟨rfl, rfl⟩ := h
    obtain ⟨a1, a2, a3⟩ := hl1.pg (p := j) (by omega)
    refine w115_10 ⟨fun z => absurd z i01, fun _ => ⟨j, rfl, by omega, fun h0 => ⟨j, rfl, by omega, ?_⟩, fun h0 => ?_⟩⟩
    · rw [a2, b2i_0] at h0
      rw [if_neg (by rw [h0]; decide), nar1]
      refine ⟨_, rfl, rfl, fun f i x hf => ?_, ?_, ?_⟩
      · rw [zu_f _ _ (fun z => hf (Or.inr (by show _ ∨ _; omega)))]
        exact f1 f i x (fun z => hf (Or.inl z))
      · rw [zu_f _ _ (by decide)]
        exact c1
      · obtain ⟨lg, n, fo, im, dm, bk, pl, r, w, e, q⟩ := A
        obtain ⟨l1, l2, l3, l4, l5, l6, l7, l8⟩ := hl1
        have hk : ∀ f i x, f ≠ 1856 → zu S1 1856 0 j (nI 1) f i x = S1 f i x := fun f i x h => zu_f _ _ h
        refine ⟨mlog_congr (fun f i j hf => hk f i j (by omega)) (by rw [hk _ _ _ (by decide)]; exact l1.2.1) l1, by rw [hk _ _ _ (by decide)]; exact l2, fun y hy => ?_, mpool_congr (fun f j hf => hk f 0 j (by omega)) l4, by rw [hk _ _ _ (by decide)]; exact l5, by rw [hk _ _ _ (by decide)]; exact l6, by rw [hk _ _ _ (by decide)]; exact l7, by rw [hk _ _ _ (by decide)]; exact l8⟩
        obtain ⟨b1, b2, b3⟩ := l3 y hy
        refine ⟨by rw [hk _ _ _ (by decide)]; exact b1, ?_, by rw [hk _ _ _ (by decide)]; exact b3⟩
        unfold upB
        by_cases hy2 : y = j
        · rw [if_pos hy2, hy2, zu_self]
          rfl
        · rw [if_neg hy2, zu_j _ _ hy2]
          exact b2
    · rw [a2, b2i_0] at h0
      have h1 : gDm A j = true := by
        cases hb : gDm A j with
        | true => rfl
        | false => exact absurd hb h0
      rw [if_pos h1]
      exact ⟨S1, rfl, rfl, fun f i x hf => f1 f i x (fun z => hf (Or.inl z)), c1, hl1⟩
  · rw [ifp_n hx]
    refine zwp_mono (r112n hm (by omega) (pgs_pos _) hx) (fun o t h => ?_)
    obtain ⟨rfl, rfl⟩ := h
    exact w115_10 ⟨fun _ => ⟨S1, rfl, rfl, fun f i x hf => f1 f i x (fun z => hf (Or.inl z)), c1, hl1⟩, fun z => absurd i00 z⟩
theorem r113 {x : Int32} (hl : lkM S ck A) (hw : wA A) (hwh : whl A) (hM : gM A ≤ 40) (hck : ck < 2 ^ 31) : zwp 113 (0, zent 113 [.inr (some (16, 0)), .inl x], [], (S, d)) (fun o t => ∃ S', o = .inl (some (.inl (aFlush A x).1)) ∧ t = (S', d) ∧ zfr S S' pmc ∧ S' 1024 0 0 = nI 0 ∧ lkM S' ck (aFlush A x).2) := by
  unfold aFlush
  have hl1 := lkM_c (v := nI 0) hl
  have f1 : ∀ f i j, f ≠ 1024 → zu S 1024 0 0 (nI 0) f i j = S f i j := fun f i j h => zu_f _ _ h
  have c1 : zu S 1024 0 0 (nI 0) 1024 0 0 = nI 0 := zu_self _ _ _ _ _
  refine w113_0 ?_
  generalize zu S 1024 0 0 (nI 0) = S1 at hl1 f1 c1
  have hm := hl1.m
  rcases ixc (n := gM A) (by omega) x with ⟨j, hj, rfl⟩ | hx
  · rw [ifp_y (by omega) hj, nI_clamp (by omega)]
    refine zwp_mono (r112y hm (by omega) hj) (fun o t h => ?_)
    obtain ⟨rfl, rfl⟩ := h
    obtain ⟨a1, a2, a3⟩ := hl1.pg (p := j) (by omega)
    obtain ⟨p1, fx, p2, p3, p4, p5⟩ := hl1.clk
    have hfx := p3 j
    have hn := hw.n
    have hlat := lat_le (gL A) j (gN A)
    have him : gIm A j ≤ gN A := by
      obtain ⟨lg, n, fo, im, dm, bk, pl, r, w, e, q⟩ := A
      exact hw.2.2.2.2.2.2.1 j
    have hnew : aNewer A j = decide (gIm A j < lat (gL A) j (gN A)) := by
      obtain ⟨lg, n, fo, im, dm, bk, pl, r, w, e, q⟩ := A
      rfl
    refine w113_10 ⟨fun z => absurd z i01, fun _ => ⟨j, rfl, by omega, fun h0 => ?_, fun h0 => ?_⟩⟩
    · rw [p2 j (by omega), ← nI_0, nI_eq_iff (by omega) (by decide)] at h0
      have h1 : j ∉ gP A := fun z => by
        have := (p4 j (by omega)).mpr z
        omega
      rw [if_neg h1]
      exact ⟨S1, rfl, rfl, fun f i x hf => f1 f i x (fun z => hf (Or.inl z)), c1, hl1⟩
    · rw [p2 j (by omega), ← nI_0, nI_eq_iff (by omega) (by decide)] at h0
      rw [if_pos ((p4 j (by omega)).mp (by omega))]
      refine zwp_mono (r78 hl1.log hw.log (by omega)) (fun o t h => ?_)
      obtain ⟨rfl, rfl⟩ := h
      refine w113_27 ⟨j, rfl, by omega, fun hlt => ?_, fun hlt => ?_⟩
      · rw [a1, nI_lt_iff (by omega) (by omega)] at hlt
        refine zwp_mono (r84 hl1 hw hwh (by omega)) (fun o t h => ?_)
        obtain ⟨S2, rfl, rfl, g0, g1, g2, g3⟩ := h
        have ew : aWin A (some j) = aWrite A j := by
          unfold aWin
          dsimp only
          rw [hnew, decide_eq_true hlt]
          rfl
        refine w113_43 ⟨S2, ?_, rfl, fun f i x hf => (g0 f i x (fun z => hf (Or.inr z))).trans (f1 f i x (fun z => hf (Or.inl z))), ?_, ?_⟩
        · rw [hnew, decide_eq_true hlt]
          rfl
        · rw [g0 1024 0 0 (by intro z; have z : 1024 = 1025 ∨ 1024 = 1026 ∨ 1024 = 1036 ∨ 1024 = 1038 ∨ (1043 ≤ 1024 ∧ 1024 ≤ 1047) ∨ (1088 ≤ 1024 ∧ 1024 ≤ 1920) := z; omega)]
          exact c1
        · rw [ew]
          exact g3
      · rw [a1, nI_lt_iff (by omega) (by omega)] at hlt
        have ew : aWin A (some j) = A := by
          unfold aWin
          dsimp only
          rw [hnew, decide_eq_false hlt]
          rfl
        refine ⟨S1, ?_, rfl, fun f i x hf => f1 f i x (fun z => hf (Or.inl z)), c1, ?_⟩
        · rw [hnew, decide_eq_false hlt]
          rfl
        · rw [ew]
          exact hl1
  · rw [ifp_n hx]
    refine zwp_mono (r112n hm (by omega) (pgs_pos _) hx) (fun o t h => ?_)
    obtain ⟨rfl, rfl⟩ := h
    exact w113_10 ⟨fun _ => ⟨S1, rfl, rfl, fun f i x hf => f1 f i x (fun z => hf (Or.inl z)), c1, hl1⟩, fun z => absurd i00 z⟩
theorem n1024 {i : Nat} : ¬ pmm 1024 i := by
  intro z
  have z : 1024 = 1025 ∨ 1024 = 1026 ∨ 1024 = 1036 ∨ 1024 = 1038 ∨ (1043 ≤ 1024 ∧ 1024 ≤ 1047) ∨ (1088 ≤ 1024 ∧ 1024 ≤ 1920) := z
  omega
theorem r114 {x : Int32} (hl : lkM S ck A) (hw : wA A) (hwh : whl A) (hwh2 : ∀ p, p < 40 → whl (aFix A p)) (hM : gM A ≤ 40) (hck : ck + 1 < 2 ^ 31) : zwp 114 (0, zent 114 [.inr (some (16, 0)), .inl x], [], (S, d)) (fun o t => ∃ S', o = .inl (some (.inl (aBackup A x).1)) ∧ t = (S', d) ∧ zfr S S' pmc ∧ S' 1024 0 0 = nI 0 ∧ ∃ ck', ck' ≤ ck + 1 ∧ lkM S' ck' (aBackup A x).2) := by
  unfold aBackup
  have hl1 := lkM_c (v := nI 0) hl
  have f1 : ∀ f i j, f ≠ 1024 → zu S 1024 0 0 (nI 0) f i j = S f i j := fun f i j h => zu_f _ _ h
  have c1 : zu S 1024 0 0 (nI 0) 1024 0 0 = nI 0 := zu_self _ _ _ _ _
  refine w114_0 ?_
  generalize zu S 1024 0 0 (nI 0) = S1 at hl1 f1 c1
  have hm := hl1.m
  rcases ixc (n := gM A) (by omega) x with ⟨j, hj, rfl⟩ | hx
  · rw [ifp_y (by omega) hj, nI_clamp (by omega)]
    refine zwp_mono (r112y hm (by omega) hj) (fun o t h => ?_)
    obtain ⟨rfl, rfl⟩ := h
    have hj4 : j < 40 := by omega
    refine w114_10 ⟨fun z => absurd z i01, fun _ => zwp_mono (r86 hl1 hw hwh hck hj4) (fun o t h => ?_)⟩
    obtain ⟨S2, rfl, rfl, g0, g1⟩ := h
    have hw1 := wA_fix (p := j) hw hj4
    have hwh1 := hwh2 j hj4
    generalize aFix A j = B at g1 hw1 hwh1
    have hfo : gFo B < 2000 := by
      obtain ⟨lg, n, fo, im, dm, bk, pl, r, w, e, q⟩ := B
      exact hw1.2.1
    refine w114_20 (zwp_mono (r78 g1.log hw1.log (by omega)) (fun o t h => ?_))
    obtain ⟨rfl, rfl⟩ := h
    refine w114_25 (zwp_mono (r83m g1.log hw1.log (lat_le _ _ _) hfo (fun q1 q2 => hwh1 _ q1 (lat_le _ _ _) q2)) (fun o t h => ?_))
    obtain ⟨S3, rfl, rfl, f3, f4⟩ := h
    have f3 : ∀ f i j, f ≠ 1026 → S3 f i j = S2 f i j := fun f i j h => f3 f i j h
    refine w114_31 ⟨j, rfl, by omega, ⟨_, rfl, rfl, fun f i x hf => ?_, ?_, ck + 1, Nat.le_refl _, ?_⟩⟩
    · rw [zu_f _ _ (fun z => hf (Or.inr (by show _ ∨ _; omega))), f3 f i x (fun z => hf (Or.inr (by show _ ∨ _; omega)))]
      exact (g0 f i x (fun z => hf (Or.inr z))).trans (f1 f i x (fun z => hf (Or.inl z)))
    · rw [zu_f _ _ (by decide), f3 _ _ _ (by decide), g0 1024 0 0 n1024]
      exact c1
    · obtain ⟨lg, n, fo, im, dm, bk, pl, r, w, e, q⟩ := B
      obtain ⟨l1, l2, l3, l4, l5, l6, l7, l8⟩ := g1
      have hk : ∀ f i x, f ≠ 1920 → f ≠ 1026 → zu S3 1920 0 j (nI (lat lg j n)) f i x = S2 f i x := fun f i x h1 h2 => by rw [zu_f _ _ h1, f3 _ _ _ h2]
      refine ⟨mlog_congr (fun f i j hf => hk f i j (by omega) (by omega)) (by rw [zu_f _ _ (by decide)]; exact f4) l1, (hk _ _ _ (by decide) (by decide)).trans l2, fun y hy => ?_, mpool_congr (fun f j hf => hk f 0 j (by omega) (by omega)) l4, (hk _ _ _ (by decide) (by decide)).trans l5, (hk _ _ _ (by decide) (by decide)).trans l6, (hk _ _ _ (by decide) (by decide)).trans l7, (hk _ _ _ (by decide) (by decide)).trans l8⟩
      obtain ⟨b1, b2, b3⟩ := l3 y hy
      refine ⟨(hk _ _ _ (by decide) (by decide)).trans b1, (hk _ _ _ (by decide) (by decide)).trans b2, ?_⟩
      unfold upO
      by_cases hy2 : y = j
      · rw [if_pos hy2, hy2]
        exact zu_self _ _ _ _ _
      · rw [if_neg hy2]
        exact (zu_j _ _ hy2).trans ((f3 _ _ _ (by decide)).trans b3)
  · rw [ifp_n hx]
    refine zwp_mono (r112n hm (by omega) (pgs_pos _) hx) (fun o t h => ?_)
    obtain ⟨rfl, rfl⟩ := h
    exact w114_10 ⟨fun _ => ⟨S1, rfl, rfl, fun f i x hf => f1 f i x (fun z => hf (Or.inl z)), c1, ck, Nat.le_succ _, hl1⟩, fun z => absurd i00 z⟩
theorem r118 {x w : Int32} (hl : lkM S ck A) (hw : wA A) (hM : gM A ≤ 40) (hck : ck < 2 ^ 31) : zwp 118 (0, zent 118 [.inr (some (16, 0)), .inl x, .inl w], [], (S, d)) (fun o t => o = .inl (some (.inl (qPg A x w))) ∧ t = (zu S 1024 0 0 (nI 0), d)) := by
  unfold qPg
  have hl1 := lkM_c (v := nI 0) hl
  refine w118_0 ?_
  generalize zu S 1024 0 0 (nI 0) = S1 at hl1
  have hm := hl1.m
  rcases ixc (n := gM A) (by omega) x with ⟨j, hj, rfl⟩ | hx
  · rw [ifx_y (by omega) hj, nI_clamp (by omega)]
    refine zwp_mono (r112y hm (by omega) hj) (fun o t h => ?_)
    obtain ⟨rfl, rfl⟩ := h
    refine w118_10 ⟨fun z => absurd z i01, fun _ => ?_⟩
    obtain ⟨a1, a2, a3⟩ := hl1.pg (p := j) (by omega)
    obtain ⟨p1, fx, p2, p3, p4, p5⟩ := hl1.clk
    have hfx := p3 j
    have hg := hl1.log
    have hwl := hw.log
    have hn := hw.n
    have key : ∀ (m k : Nat), k + m = gN A → zwp 118 (20, [some (.inr (some (16, 0))), some (.inl (nI j)), some (.inl w), some (.inl (nI (cnt (gL A) j k))), some (.inl (nI (k + 1)))], [], (S1, d)) (fun o t => o = .inl (some (.inl (qP1 A j w))) ∧ t = (S1, d)) := by
      intro m
      induction m with
      | zero =>
        intro k hk
        have hk : k = gN A := by omega
        subst hk
        refine w118_20 ⟨fun _ => ⟨fun h0 => ⟨j, rfl, by omega, fun h1 => ?_, fun h1 => ?_⟩, fun h0 => ⟨j, rfl, by omega, ?_⟩, fun h0 => ⟨j, rfl, by omega, ?_⟩, fun h0 => ⟨j, rfl, by omega, ?_⟩, fun h0 => ?_, fun h0 => ?_, fun h0 h1 h2 h3 h4 h5 => ?_⟩, fun h => ?_⟩
        · rw [p2 j (by omega), ← nI_0, nI_le_iff (by omega) (by decide)] at h1
          subst h0
          have : j ∉ gP A := fun z => by
            have := (p4 j (by omega)).mpr z
            omega
          refine ⟨?_, rfl⟩
          unfold qP1
          rw [if_pos rfl, decide_eq_false this]
          rfl
        · rw [p2 j (by omega), ← nI_0, nI_le_iff (by omega) (by decide)] at h1
          subst h0
          refine ⟨?_, rfl⟩
          unfold qP1
          rw [if_pos rfl, decide_eq_true ((p4 j (by omega)).mp (by omega))]
          rfl
        · subst h0
          rw [a1]
          exact ⟨rfl, rfl⟩
        · subst h0
          rw [a3]
          exact ⟨rfl, rfl⟩
        · subst h0
          rw [a2]
          exact b2i_br (P := fun v => (Sum.inl (some (Sum.inl v)) : zO) = .inl (some (.inl (qP1 A j (nI 3)))) ∧ (S1, d) = (S1, d)) ⟨rfl, rfl⟩
        · subst h0
          refine zwp_mono (r78 hg hwl (by omega)) (fun o t h => ?_)
          obtain ⟨rfl, rfl⟩ := h
          exact w118_153 ⟨rfl, rfl⟩
        · subst h0
          exact ⟨rfl, rfl⟩
        · refine ⟨?_, rfl⟩
          unfold qP1
          rw [if_neg h0, if_neg h1, if_neg h2, if_neg h3, if_neg h4, if_neg h5]
        · rw [hg.1, nI_lt_iff (by omega) (by omega)] at h
          omega
      | succ m ih =>
        intro k hk
        obtain ⟨⟨b1, b2, -⟩, -⟩ := hg.2.2.2 (k + 1) (by omega) (by omega)
        obtain ⟨w1, w2, -⟩ := hwl.2 (k + 1) (by omega) (by omega)
        have nx := ih (k + 1) (by omega)
        refine w118_20 ⟨fun h => ?_, fun _ => ⟨k + 1, rfl, by omega, fun h6 => ?_, fun h6 => ⟨k + 1, rfl, by omega, fun hpg => ?_, fun hpg => ?_⟩⟩⟩
        · rw [hg.1, nI_lt_iff (by omega) (by omega)] at h
          omega
        · rw [b1, nI_le_iff (by decide) (by omega)] at h6
          rw [cnt, isPg_k (by omega), if_neg (by decide)] at nx
          rw [nI_add, nI_add]
          exact nx
        · rw [b1, nI_le_iff (by decide) (by omega)] at h6
          have h6 : rK (gL A (k + 1)) < 6 := by omega
          have := w2 h6
          rw [b2 h6, nI_eq_iff (by omega) (by omega)] at hpg
          rw [cnt, isPg_t h6 hpg, if_pos rfl] at nx
          rw [nI_add, nI_add]
          exact nx
        · rw [b1, nI_le_iff (by decide) (by omega)] at h6
          have h6 : rK (gL A (k + 1)) < 6 := by omega
          have := w2 h6
          rw [b2 h6, nI_eq_iff (by omega) (by omega)] at hpg
          rw [cnt, isPg_p hpg, if_neg (by decide)] at nx
          rw [nI_add, nI_add]
          exact nx
    exact key (gN A) 0 (by omega)
  · rw [ifx_n hx]
    refine zwp_mono (r112n hm (by omega) (pgs_pos _) hx) (fun o t h => ?_)
    obtain ⟨rfl, rfl⟩ := h
    exact w118_10 ⟨fun _ => ⟨rfl, rfl⟩, fun z => absurd i00 z⟩
end RV
