/-! The tree under changes and splits. -/
theorem mem_ins {α : Type} {i : Nat} {y x : α} {l : List α} : x ∈ lins i y l ↔ x = y ∨ x ∈ l := by
  unfold lins
  rw [List.mem_append, List.mem_cons]
  constructor
  · rintro (h | h | h)
    · exact Or.inr (List.mem_of_mem_take h)
    · exact Or.inl h
    · exact Or.inr (List.mem_of_mem_drop h)
  · rintro (h | h)
    · exact Or.inr (Or.inl h)
    · rw [← List.take_append_drop i l, List.mem_append] at h
      rcases h with h | h
      · exact Or.inl h
      · exact Or.inr (Or.inr h)
theorem srt_at {k : Nat} : ∀ {l : List Nat}, srt l → k ∈ l → l[lpos k l]? = some k
  | [], _, h => by cases h
  | a :: r, hs, h => by
    rw [srt, List.pairwise_cons] at hs
    rw [lpos]
    rcases List.mem_cons.mp h with h | h
    · rw [h, if_neg (Nat.lt_irrefl _)]
      rfl
    · rw [if_pos (hs.1 k h), List.getElem?_cons_succ]
      exact srt_at hs.2 h
theorem srt_ins {k : Nat} : ∀ {l : List Nat}, srt l → k ∉ l → srt (lins (lpos k l) k l)
  | [], _, _ => by simp [lins, lpos, srt]
  | a :: r, hs, h => by
    have hs' := hs
    rw [srt, List.pairwise_cons] at hs
    rw [List.mem_cons, not_or] at h
    rw [lpos]
    by_cases e : a < k
    · rw [if_pos e]
      show srt (a :: lins (lpos k r) k r)
      rw [srt, List.pairwise_cons]
      refine ⟨fun x hx => ?_, srt_ins hs.2 h.2⟩
      rcases mem_ins.mp hx with hx | hx
      · omega
      · exact hs.1 x hx
    · rw [if_neg e]
      show srt (k :: a :: r)
      rw [srt, List.pairwise_cons]
      refine ⟨fun x hx => ?_, hs'⟩
      rcases List.mem_cons.mp hx with hx | hx
      · omega
      · have := hs.1 x hx
        omega
theorem srt_nd {l : List Nat} (h : srt l) : l.Nodup := List.Pairwise.imp (fun h => Nat.ne_of_lt h) h
theorem mem_er {k j : Nat} : ∀ {l : List Nat}, l.Nodup → (j ∈ l.eraseIdx (lidx k l) ↔ j ∈ l ∧ j ≠ k)
  | [], _ => by simp
  | a :: r, h => by
    rw [List.nodup_cons] at h
    rw [lidx]
    by_cases e : a = k
    · rw [if_pos e, List.eraseIdx_cons_zero, List.mem_cons]
      constructor
      · intro hj
        exact ⟨Or.inr hj, fun z => h.1 (by rw [e, ← z]; exact hj)⟩
      · rintro ⟨hj | hj, hk⟩
        · exact absurd (hj.trans e) hk
        · exact hj
    · rw [if_neg e, List.eraseIdx_cons_succ, List.mem_cons, mem_er h.2, List.mem_cons]
      constructor
      · rintro (hj | ⟨hj, hk⟩)
        · exact ⟨Or.inl hj, fun z => e (by rw [← hj, z])⟩
        · exact ⟨Or.inr hj, hk⟩
      · rintro ⟨hj | hj, hk⟩
        · exact Or.inl hj
        · exact Or.inr ⟨hj, hk⟩
theorem lfc_set {a b k : Nat} {v : Int32} {pr : Nat → Bool} {c : aCon} (h : lfc a b pr c.2.1) (h1 : a ≤ k) (h2 : k < b) : lfc a b (fun j => if j = k then true else pr j) (cEnter k v c).2.1 := by
  obtain ⟨q1, q2⟩ := h
  unfold cEnter
  by_cases e : c.2.1[lpos k c.2.1]? = some k
  · rw [if_pos e]
    refine ⟨q1, fun j => ?_⟩
    show j ∈ c.2.1 ↔ _
    rw [q2 j]
    dsimp only
    by_cases ej : j = k
    · rw [if_pos ej, ej]
      have := (q2 k).mp (List.mem_of_getElem? e)
      exact ⟨fun _ => ⟨h1, h2, rfl⟩, fun _ => this⟩
    · rw [if_neg ej]
  · rw [if_neg e]
    have hn : k ∉ c.2.1 := fun z => e (srt_at q1 z)
    refine ⟨srt_ins q1 hn, fun j => ?_⟩
    show j ∈ lins (lpos k c.2.1) k c.2.1 ↔ _
    rw [mem_ins, q2 j]
    dsimp only
    by_cases ej : j = k
    · rw [if_pos ej, ej]
      exact ⟨fun _ => ⟨h1, h2, rfl⟩, fun _ => Or.inl rfl⟩
    · rw [if_neg ej]
      exact ⟨fun z => z.elim (fun z => absurd z ej) id, Or.inr⟩
theorem lfc_out {a b k : Nat} {pr : Nat → Bool} {l : List Nat} (h : lfc a b pr l) : lfc a b (fun j => if j = k then false else pr j) (l.eraseIdx (lidx k l)) := by
  obtain ⟨q1, q2⟩ := h
  refine ⟨List.Pairwise.sublist (List.eraseIdx_sublist l _) q1, fun j => ?_⟩
  rw [mem_er (srt_nd q1), q2 j]
  dsimp only
  by_cases ej : j = k
  · rw [if_pos ej]
    exact ⟨fun z => absurd ej z.2, fun z => by cases z.2.2⟩
  · rw [if_neg ej]
    exact ⟨fun z => z.1, fun z => ⟨z, ej⟩⟩
section TRS
variable {C C' : Nat → aCon} {M : Nat} {pr pr' : Nat → Bool} {lo hi lv up : Nat → Nat}
theorem tre_chg {p : Nat} {c : aCon} (h : tre C M pr lo hi lv up) (hp : p < M) (hb : (C p).1 = false) (hC : ∀ x, C' x = if x = p then c else C x) (hc : c.1 = false) (hl : lfc (lo p) (hi p) pr' c.2.1) (hpr : ∀ j, ¬ (lo p ≤ j ∧ j < hi p) → pr' j = pr j) : tre C' M pr' lo hi lv up := by
  have hbr : ∀ x, (C x).1 = true → C' x = C x := fun x hx => by
    rw [hC x, if_neg (fun z => by rw [z, hb] at hx; cases hx)]
  refine ⟨h.1, h.2.1, fun q hq => ?_, ?_⟩
  · obtain ⟨q1, q2, q3, q4, q5⟩ := h.2.2.1 q hq
    refine ⟨q1, q2, fun h0 => ?_, fun h0 => ?_, fun h0 => ?_⟩
    · obtain ⟨z1, z2, z3⟩ := q3 h0
      rw [hbr _ z2]
      exact ⟨z1, z2, z3⟩
    · by_cases e : q = p
      · rw [hC q, if_pos e, e]
        exact ⟨((h.2.2.1 p hp).2.2.2.1 hb).1, hl⟩
      · rw [hC q, if_neg e] at h0 ⊢
        obtain ⟨z1, z2, z3⟩ := q4 h0
        refine ⟨z1, z2, fun k => ?_⟩
        rw [z3 k]
        by_cases ek : lo q ≤ k ∧ k < hi q
        · rw [hpr k (fun z => e (tre_leaf h hq hp h0 hb ek.1 ek.2 z.1 z.2))]
        · exact ⟨fun z => absurd ⟨z.1, z.2.1⟩ ek, fun z => absurd ⟨z.1, z.2.1⟩ ek⟩
    · have e : q ≠ p := fun e => by
        rw [hC q, if_pos e, hc] at h0
        cases h0
      rw [hC q, if_neg e] at h0 ⊢
      exact q5 h0
  · rw [← h.2.2.2]
    refine sumN_congr (fun i _ => ?_)
    unfold vw
    by_cases e : i = p
    · rw [hC i, if_pos e, hc, e, hb]
      rfl
    · rw [hC i, if_neg e]
theorem tre_pr (h : tre C M pr lo hi lv up) (hp : ∀ j, pr' j = pr j) (hC : ∀ x, C' x = C x) : tre C' M pr' lo hi lv up := by
  have e1 : pr' = pr := funext hp
  have e2 : C' = C := funext hC
  rw [e1, e2]
  exact h
theorem four {α : Type} {l : List α} (h : l.length = 4) : ∃ a b c d, l = [a, b, c, d] := by
  match l, h with
  | [a, b, c, d], _ => exact ⟨a, b, c, d, rfl⟩
theorem lfc_4 {a b x y z w : Nat} (h : lfc a b pr [x, y, z, w]) : a < z ∧ z < b ∧ a + 2 ≤ z ∧ z + 2 ≤ b ∧ lfc a z pr [x, y] ∧ lfc z b pr [z, w] := by
  obtain ⟨q1, q2⟩ := h
  have s1 : x < y ∧ y < z ∧ z < w := by
    rw [srt, List.pairwise_cons, List.pairwise_cons, List.pairwise_cons] at q1
    exact ⟨q1.1 y (by simp), q1.2.1 z (by simp), q1.2.2.1 w (by simp)⟩
  have mx := (q2 x).mp (by simp)
  have my := (q2 y).mp (by simp)
  have mz := (q2 z).mp (by simp)
  have mw := (q2 w).mp (by simp)
  refine ⟨by omega, by omega, by omega, by omega, ⟨by simp [srt]; omega, fun k => ?_⟩, ⟨by simp [srt]; omega, fun k => ?_⟩⟩
  · simp only [List.mem_cons, List.not_mem_nil, or_false]
    constructor
    · rintro (e | e)
      · rw [e]
        exact ⟨mx.1, by omega, mx.2.2⟩
      · rw [e]
        exact ⟨my.1, by omega, my.2.2⟩
    · rintro ⟨e1, e2, e3⟩
      have := (q2 k).mpr ⟨e1, by omega, e3⟩
      simp only [List.mem_cons, List.not_mem_nil, or_false] at this
      omega
  · simp only [List.mem_cons, List.not_mem_nil, or_false]
    constructor
    · rintro (e | e)
      · rw [e]
        exact ⟨Nat.le_refl _, mz.2⟩
      · rw [e]
        exact ⟨by omega, mw.2⟩
    · rintro ⟨e1, e2, e3⟩
      have := (q2 k).mpr ⟨by omega, e2, e3⟩
      simp only [List.mem_cons, List.not_mem_nil, or_false] at this
      omega
-- a full page, as its halves will be
def hlf (C : Nat → aCon) (M : Nat) (pr : Nat → Bool) (lo hi lv up : Nat → Nat) (p s : Nat) : Prop :=
  cMid (C p) = nI s ∧ lo p + 2 ≤ s ∧ s + 2 ≤ hi p ∧ ((C p).1 = false → lfc (lo p) s pr (cHalf (C p) 0).2.1 ∧ lfc s (hi p) pr (cHalf (C p) 2).2.1) ∧ ((C p).1 = true → chn lo hi (kdR M lv up p) (cHalf (C p) 0).2.1 (cHalf (C p) 0).2.2 (lo p) s ∧ chn lo hi (kdR M lv up p) (cHalf (C p) 2).2.1 (cHalf (C p) 2).2.2 s (hi p) ∧ (∀ x ∈ (C p).2.1, (lo x < s → x ∈ (cHalf (C p) 0).2.1) ∧ (s ≤ lo x → x ∈ (cHalf (C p) 2).2.1))) ∧ (∀ x ∈ (cHalf (C p) 0).2.1, (C p).1 = true → lo x < s) ∧ (∀ x ∈ (cHalf (C p) 2).2.1, (C p).1 = true → s ≤ lo x)
theorem tre_hlf {p : Nat} (h : tre C M pr lo hi lv up) (hp : p < M) (h4 : (C p).2.1.length = 4) : ∃ s, hlf C M pr lo hi lv up p s := by
  obtain ⟨q1, q2, q3, q4, q5⟩ := h.2.2.1 p hp
  unfold hlf
  generalize C p = c at *
  obtain ⟨b, hs, ts⟩ := c
  obtain ⟨x, y, z, w, e⟩ := four h4
  have e : hs = [x, y, z, w] := e
  subst e
  cases b with
  | false =>
    obtain ⟨z1, z2⟩ := q4 rfl
    obtain ⟨f1, f2, f3, f4, f5, f6⟩ := lfc_4 z2
    exact ⟨z, rfl, f3, f4, fun _ => ⟨f5, f6⟩, fun h => (by cases h), fun _ _ h => (by cases h), fun _ _ h => (by cases h)⟩
  | true =>
    obtain ⟨-, z2⟩ := q5 rfl
    have hl := chn_len z2
    match ts, hl, z2 with
    | [t0, t1, t2], _, z2 =>
      obtain ⟨s0, a1, a2, a3, a4, a5, a6, a7, s1, b1, b2, b3, b4, b5, b6, b7, s2, c1, c2, c3, c4, c5, c6, c7, -, d1, d2, d3⟩ := z2
      refine ⟨s1, b1, by omega, ?_, fun h => (by cases h), fun _ => ⟨⟨s0, a1, a2, b2, a4, a5, a6, a7, rfl, b5, b6, b7⟩, ⟨s2, c1, c2, c3, c4, c5, c6, c7, rfl, d1, d2, d3⟩, fun v hv => ?_⟩, fun v hv _ => ?_, fun v hv _ => ?_⟩
      · have w1 := (h.2.2.1 w d1.1).1
        have e1 : lo w = s2 := d2
        have e2 : hi w = hi p := d3
        show s1 + 2 ≤ hi p
        omega
      · have hv : v ∈ [x, y, z, w] := hv
        simp only [List.mem_cons, List.not_mem_nil, or_false] at hv
        show (lo v < s1 → v ∈ [x, y]) ∧ (s1 ≤ lo v → v ∈ [z, w])
        simp only [List.mem_cons, List.not_mem_nil, or_false]
        rcases hv with rfl | rfl | rfl | rfl
        · exact ⟨fun _ => Or.inl rfl, fun h => (by omega)⟩
        · exact ⟨fun _ => Or.inr rfl, fun h => (by omega)⟩
        · exact ⟨fun h => (by omega), fun _ => Or.inl rfl⟩
        · exact ⟨fun h => (by omega), fun _ => Or.inr rfl⟩
      · have hv : v ∈ [x, y] := hv
        simp only [List.mem_cons, List.not_mem_nil, or_false] at hv
        rcases hv with rfl | rfl <;> omega
      · have hv : v ∈ [z, w] := hv
        simp only [List.mem_cons, List.not_mem_nil, or_false] at hv
        rcases hv with rfl | rfl <;> omega
theorem half_len {c : aCon} {a : Nat} (h4 : c.2.1.length = 4) (ha : a = 0 ∨ a = 2) : (cHalf c a).2.1.length = 2 := by
  show ((c.2.1.drop a).take 2).length = 2
  rw [List.length_take, List.length_drop, h4]
  rcases ha with rfl | rfl <;> rfl
-- the root is split
theorem tre_root {s : Nat} (h : tre C M pr lo hi lv up) (hM : 1 ≤ M) (h4 : (C 0).2.1.length = 4) (hh : hlf C M pr lo hi lv up 0 s) (hC : ∀ x, C' x = if x = 0 then (true, [M, M + 1], [cMid (C 0)]) else if x = M then cHalf (C 0) 0 else if x = M + 1 then cHalf (C 0) 2 else C x) :
    ∃ lo' hi' lv' up', tre C' (M + 2) pr lo' hi' lv' up' ∧ lo' M = 0 ∧ hi' M = s ∧ lo' (M + 1) = s ∧ hi' (M + 1) = 40 ∧ lv' M = lv 0 ∧ lv' (M + 1) = lv 0 := by
  obtain ⟨g1, g2, g3, g4, g5, g6, g7⟩ := hh
  rw [h.1] at g2 g4 g5
  rw [h.2.1] at g3 g4 g5
  obtain ⟨r1, r2, r3, r4, r5⟩ := h.2.2.1 0 (by omega)
  let lo' : Nat → Nat := fun x => if x = M then 0 else if x = M + 1 then s else lo x
  let hi' : Nat → Nat := fun x => if x = M then s else if x = M + 1 then 40 else hi x
  let lv' : Nat → Nat := fun x => if x = M ∨ x = M + 1 then lv 0 else if x = 0 then lv 0 + 1 else lv x
  let up' : Nat → Nat := fun x => if x = M ∨ x = M + 1 then 0 else if up x = 0 ∧ x ≠ 0 then (if lo x < s then M else M + 1) else up x
  have lo1 : ∀ x, x < M → lo' x = lo x := fun x hx => by
    show (if x = M then 0 else if x = M + 1 then s else lo x) = lo x
    rw [if_neg (by omega), if_neg (by omega)]
  have hi1 : ∀ x, x < M → hi' x = hi x := fun x hx => by
    show (if x = M then s else if x = M + 1 then 40 else hi x) = hi x
    rw [if_neg (by omega), if_neg (by omega)]
  have lv1 : ∀ x, x < M → x ≠ 0 → lv' x = lv x := fun x hx h0 => by
    show (if x = M ∨ x = M + 1 then lv 0 else if x = 0 then lv 0 + 1 else lv x) = lv x
    rw [if_neg (by omega), if_neg h0]
  have lv0 : lv' 0 = lv 0 + 1 := by
    show (if 0 = M ∨ 0 = M + 1 then lv 0 else if 0 = 0 then lv 0 + 1 else lv 0) = lv 0 + 1
    rw [if_neg (by omega), if_pos rfl]
  have up1 : ∀ x, x < M → up x ≠ 0 → up' x = up x := fun x hx h0 => by
    show (if x = M ∨ x = M + 1 then 0 else if up x = 0 ∧ x ≠ 0 then (if lo x < s then M else M + 1) else up x) = up x
    rw [if_neg (by omega), if_neg (fun z => h0 z.1)]
  have up2 : ∀ x, x < M → up x = 0 → x ≠ 0 → up' x = if lo x < s then M else M + 1 := fun x hx h0 h1 => by
    show (if x = M ∨ x = M + 1 then 0 else if up x = 0 ∧ x ≠ 0 then (if lo x < s then M else M + 1) else up x) = _
    rw [if_neg (by omega), if_pos ⟨h0, h1⟩]
  have loM : lo' M = 0 := if_pos rfl
  have hiM : hi' M = s := if_pos rfl
  have loN : lo' (M + 1) = s := by
    show (if M + 1 = M then 0 else if M + 1 = M + 1 then s else lo (M + 1)) = s
    rw [if_neg (by omega), if_pos rfl]
  have hiN : hi' (M + 1) = 40 := by
    show (if M + 1 = M then s else if M + 1 = M + 1 then 40 else hi (M + 1)) = 40
    rw [if_neg (by omega), if_pos rfl]
  have lvM : lv' M = lv 0 := if_pos (Or.inl rfl)
  have lvN : lv' (M + 1) = lv 0 := if_pos (Or.inr rfl)
  have upM : up' M = 0 := if_pos (Or.inl rfl)
  have upN' : up' (M + 1) = 0 := if_pos (Or.inr rfl)
  have C0 : C' 0 = (true, [M, M + 1], [cMid (C 0)]) := by rw [hC 0, if_pos rfl]
  have CM : C' M = cHalf (C 0) 0 := by rw [hC M, if_neg (by omega), if_pos rfl]
  have CN : C' (M + 1) = cHalf (C 0) 2 := by rw [hC (M + 1), if_neg (by omega), if_neg (by omega), if_pos rfl]
  have Cx : ∀ x, x < M → x ≠ 0 → C' x = C x := fun x hx h0 => by rw [hC x, if_neg h0, if_neg (by omega), if_neg (by omega)]
  have b0 : (cHalf (C 0) 0).1 = (C 0).1 := rfl
  have b2 : (cHalf (C 0) 2).1 = (C 0).1 := rfl
  refine ⟨lo', hi', lv', up', ⟨(lo1 0 (by omega)).trans h.1, (hi1 0 (by omega)).trans h.2.1, fun q hq => ?_, ?_⟩, loM, hiM, loN, hiN, lvM, lvN⟩
  · by_cases e0 : q = 0
    · subst e0
      rw [pgc, C0, lo1 0 (by omega), hi1 0 (by omega)]
      refine ⟨r1, r2, fun z => absurd rfl z, fun z => (by cases z), fun _ => ⟨Nat.le_refl _, s, g1, by rw [h.1]; omega, by rw [h.2.1]; omega, by omega, ⟨by omega, by omega, by rw [lvM, lv0], upM⟩, by rw [loM, h.1], hiM, rfl, ⟨by omega, by omega, by rw [lvN, lv0], upN'⟩, loN, by rw [hiN, h.2.1]⟩⟩
    · by_cases eM : q = M
      · subst eM
        rw [pgc, CM, loM, hiM, lvM, upM, b0, C0]
        refine ⟨by omega, by omega, fun _ => ⟨by omega, rfl, by simp⟩, fun z => ⟨(r4 z).1, (g4 z).1⟩, fun z => ⟨by rw [half_len h4 (Or.inl rfl)]; exact Nat.le_refl _, ?_⟩⟩
        refine chn_mono (fun c hc hR => ?_) (g5 z).1
        obtain ⟨k1, k2, k3, k4⟩ := hR
        refine ⟨⟨by omega, k2, by rw [lv1 c k1 k2, lvM]; exact k3, ?_⟩, lo1 c k1, hi1 c k1⟩
        rw [up2 c k1 k4 k2, if_pos (g6 c hc z)]
      · by_cases eN : q = M + 1
        · subst eN
          rw [pgc, CN, loN, hiN, lvN, upN', b2, C0]
          refine ⟨by omega, by omega, fun _ => ⟨by omega, rfl, by simp⟩, fun z => ⟨(r4 z).1, (g4 z).2⟩, fun z => ⟨by rw [half_len h4 (Or.inr rfl)]; exact Nat.le_refl _, ?_⟩⟩
          refine chn_mono (fun c hc hR => ?_) (g5 z).2.1
          obtain ⟨k1, k2, k3, k4⟩ := hR
          refine ⟨⟨by omega, k2, by rw [lv1 c k1 k2, lvN]; exact k3, ?_⟩, lo1 c k1, hi1 c k1⟩
          have := g7 c hc z
          rw [up2 c k1 k4 k2, if_neg (by omega)]
        · have hqM : q < M := by omega
          obtain ⟨q1, q2, q3, q4, q5⟩ := h.2.2.1 q hqM
          rw [pgc, Cx q hqM e0, lo1 q hqM, hi1 q hqM, lv1 q hqM e0]
          refine ⟨q1, q2, fun _ => ?_, q4, fun z => ⟨(q5 z).1, ?_⟩⟩
          · obtain ⟨z1, z2, z3⟩ := q3 e0
            by_cases eu : up q = 0
            · rw [eu] at z2 z3
              obtain ⟨y1, y2⟩ := (g5 z2).2.2 q z3
              rw [up2 q hqM eu e0]
              by_cases el : lo q < s
              · rw [if_pos el, CM]
                exact ⟨by omega, z2, y1 el⟩
              · rw [if_neg el, CN]
                exact ⟨by omega, z2, y2 (by omega)⟩
            · rw [up1 q hqM eu, Cx _ z1 eu]
              exact ⟨by omega, z2, z3⟩
          · refine chn_mono (fun c hc hR => ?_) (q5 z).2
            obtain ⟨k1, k2, k3, k4⟩ := hR
            exact ⟨⟨by omega, k2, by rw [lv1 c k1 k2, lv1 q hqM e0]; exact k3, by rw [up1 c k1 (by rw [k4]; exact e0)]; exact k4⟩, lo1 c k1, hi1 c k1⟩
  · rw [sumN, sumN]
    have hs := h.2.2.2
    have h1 := sumN_at (f := vw C lo hi) (g := vw C' lo' hi') (p := 0) (n := M) (by omega) (fun i hi2 h0 => by
      unfold vw
      rw [Cx i hi2 h0, lo1 i hi2, hi1 i hi2])
    have v0 : vw C' lo' hi' 0 = 2 := by
      unfold vw
      rw [C0]
      rfl
    have vM : vw C' lo' hi' M = if (C 0).1 = true then 2 else s - 0 := by
      unfold vw
      rw [CM, b0, hiM, loM, half_len h4 (Or.inl rfl)]
    have vN : vw C' lo' hi' (M + 1) = if (C 0).1 = true then 2 else 40 - s := by
      unfold vw
      rw [CN, b2, hiN, loN, half_len h4 (Or.inr rfl)]
    have vo : vw C lo hi 0 = if (C 0).1 = true then 4 else 40 - 0 := by
      unfold vw
      rw [h4, h.1, h.2.1]
    rw [vM, vN]
    rw [v0, vo] at h1
    by_cases hb : (C 0).1 = true
    · rw [if_pos hb] at h1 ⊢
      rw [if_pos hb]
      omega
    · rw [if_neg hb] at h1 ⊢
      rw [if_neg hb]
      omega
end TRS
