/-! A record comes into force, in the class. -/
-- rows up to N, flags and pages as of the first k records
def lgx (S : zS) (d : Nat) (lg : Nat → aRec) (N fo sl k : Nat) : Prop := S 65 0 0 = nI N ∧ S 66 0 0 = nI fo ∧ S 67 0 0 = nI sl ∧ N ≤ d ∧ d < 1145 ∧ (∀ m, 1 ≤ m → m ≤ N → lrH S m (lat lg (rP (lg m)) (m - 1)) (lg m) ∧ lrB S m (lg m)) ∧ ∀ m, 1 ≤ m → m ≤ k → S 198 m 0 = b2i (undn lg m k)
def lkX (S : zS) (d sl N k : Nat) (lg : Nat → aRec) (fo : Nat) (im : Nat → Nat) (dm : Nat → Bool) (bk : Nat → Option Nat) (pl : List Nat) (r w e q : Int32) : Prop := lgx S d lg N fo sl k ∧ S 4 0 0 = nI (pgs lg k) ∧ (∀ p, p < 40 → lpg S lg k im dm bk p) ∧ lpool S pl ∧ S 8 0 0 = r ∧ S 9 0 0 = w ∧ S 10 0 0 = e ∧ S 11 0 0 = q
theorem lkC_X {S : zS} {d sl n : Nat} {lg : Nat → aRec} {fo : Nat} {im : Nat → Nat} {dm : Nat → Bool} {bk : Nat → Option Nat} {pl : List Nat} {r w e q : Int32} : lkC S d sl (lg, n, fo, im, dm, bk, pl, r, w, e, q) ↔ lkX S d sl n n lg fo im dm bk pl r w e q := by
  constructor
  · rintro ⟨⟨a1, a2, a3, a4, a5, a6⟩, h⟩
    exact ⟨⟨a1, a2, a3, a4, a5, fun m h1 h2 => ⟨(a6 m h1 h2).1, (a6 m h1 h2).2.2⟩, fun m h1 h2 => (a6 m h1 h2).2.1⟩, h⟩
  · rintro ⟨⟨a1, a2, a3, a4, a5, a6, a7⟩, h⟩
    exact ⟨⟨a1, a2, a3, a4, a5, fun m h1 h2 => ⟨(a6 m h1 h2).1, a7 m h1 h2, (a6 m h1 h2).2⟩⟩, h⟩
-- may this record come to these contents?
def legal (r : aRec) (c : aCon) : Prop := match rK r with
  | 1 => c.1 = false ∧ (c.2.1[lpos (rY r) c.2.1]? = some (rY r) ∨ c.2.1.length < 4)
  | 2 => c.1 = false ∧ rY r ∈ c.2.1
  | 3 => wcon (rF r) ∧ (rF r).2.1.length = 2
  | 4 => c.2.1.length = 4
  | 5 => c.1 = true ∧ rE r ∈ c.2.1 ∧ c.2.1.length < 4 ∧ rC r < 64
  | _ => False
theorem undn_far {lg : Nat → aRec} {m : Nat} : ∀ {k : Nat}, (∀ j, 1 ≤ j → j ≤ k → rU (lg j) < j) → k < m → undn lg m k = false
  | 0, _, _ => rfl
  | k + 1, h, hm => by
    rw [undn, undn_far (fun j h1 h2 => h j h1 (by omega)) (by omega), Bool.or_false]
    have := h (k + 1) (by omega) (Nat.le_refl _)
    exact decide_eq_false (by omega)
theorem mem_lins {α : Type} {i : Nat} {x y : α} {l : List α} (h : y ∈ lins i x l) : y = x ∨ y ∈ l := by
  unfold lins at h
  rcases List.mem_append.mp h with h | h
  · exact Or.inr (List.mem_of_mem_take h)
  · rcases List.mem_cons.mp h with h | h
    · exact Or.inl h
    · exact Or.inr (List.mem_of_mem_drop h)
theorem wcon_enter {k : Nat} {v : Int32} {c : aCon} (hw : wcon c) (hb : c.1 = false) (hr : c.2.1[lpos k c.2.1]? = some k ∨ c.2.1.length < 4) (hk : k < 64) : wcon (cEnter k v c) := by
  obtain ⟨w1, w2, w3, w4⟩ := hw
  rw [hb] at w3
  simp at w3
  unfold cEnter
  by_cases hin : c.2.1[lpos k c.2.1]? = some k
  · rw [if_pos hin]
    refine ⟨w1, w2, ?_, w4⟩
    show (c.2.2.set _ _).length = c.2.1.length - (if c.1 = true then 1 else 0)
    rw [List.length_set, hb]
    simpa using w3
  · rw [if_neg hin]
    have h4 := hr.resolve_left hin
    refine ⟨?_, fun h hh => ?_, ?_, fun hh => ?_⟩
    · show (lins _ _ c.2.1).length ≤ 4
      rw [lins_len]
      omega
    · rcases mem_lins hh with rfl | hh
      · exact hk
      · exact w2 h hh
    · show (lins _ _ c.2.2).length = (lins _ _ c.2.1).length - (if c.1 = true then 1 else 0)
      rw [lins_len, lins_len, hb]
      simp
      omega
    · have hh' : c.1 = true := hh
      rw [hb] at hh'
      cases hh'
theorem wcon_drop {k : Nat} {c : aCon} (hw : wcon c) (hb : c.1 = false) (hm : k ∈ c.2.1) : wcon (cDrop k c) := by
  obtain ⟨w1, w2, w3, w4⟩ := hw
  rw [hb] at w3
  simp at w3
  have hat := (lidx_mem hm).1
  refine ⟨?_, fun h hh => w2 h (List.mem_of_mem_eraseIdx hh), ?_, fun hh => ?_⟩
  · show (c.2.1.eraseIdx _).length ≤ 4
    rw [List.length_eraseIdx]
    split <;> omega
  · show (c.2.2.eraseIdx (lidx k c.2.1)).length = (c.2.1.eraseIdx (lidx k c.2.1)).length - (if c.1 = true then 1 else 0)
    rw [List.length_eraseIdx, List.length_eraseIdx, if_pos hat, if_pos (by omega), hb]
    simp
    omega
  · have hh' : c.1 = true := hh
    rw [hb] at hh'
    cases hh'
theorem wcon_cut {c : aCon} (hw : wcon c) (h4 : c.2.1.length = 4) : wcon (cCut c) := by
  obtain ⟨w1, w2, w3, w4⟩ := hw
  refine ⟨?_, fun h hh => w2 h (List.mem_of_mem_take hh), ?_, fun _ => ?_⟩
  · show (c.2.1.take 2).length ≤ 4
    rw [List.length_take]
    omega
  · show (c.2.2.take (if c.1 = true then 1 else 2)).length = (c.2.1.take 2).length - (if c.1 = true then 1 else 0)
    rw [List.length_take, List.length_take, h4]
    rw [h4] at w3
    cases hb : c.1 with
    | true =>
      rw [hb] at w3
      simp at w3 ⊢
      omega
    | false =>
      rw [hb] at w3
      simp at w3 ⊢
      omega
  · show 1 ≤ (c.2.1.take 2).length
    rw [List.length_take]
    omega
theorem wcon_link {sep child behind : Nat} {c : aCon} (hw : wcon c) (hb : c.1 = true) (h4 : c.2.1.length < 4) (hc : child < 64) : wcon (cLink sep child behind c) := by
  obtain ⟨w1, w2, w3, w4⟩ := hw
  have w5 := w4 hb
  rw [hb] at w3
  simp at w3
  refine ⟨?_, fun h hh => ?_, ?_, fun _ => ?_⟩
  · show (lins _ _ c.2.1).length ≤ 4
    rw [lins_len]
    omega
  · rcases mem_lins hh with rfl | hh
    · exact hc
    · exact w2 h hh
  · show (lins _ _ c.2.2).length = (lins _ _ c.2.1).length - (if c.1 = true then 1 else 0)
    rw [lins_len, lins_len, hb]
    simp
    omega
  · show 1 ≤ (lins _ _ c.2.1).length
    rw [lins_len]
    omega
theorem wcon_app {r : aRec} {c : aCon} (hw : wcon c) (hl : legal r c) (hy : rY r < 64) : wcon (app r c) := by
  by_cases e1 : rK r = 1
  · simp only [legal, app, e1] at hl ⊢
    exact wcon_enter hw hl.1 hl.2 hy
  by_cases e2 : rK r = 2
  · simp only [legal, app, e2] at hl ⊢
    exact wcon_drop hw hl.1 hl.2
  by_cases e3 : rK r = 3
  · simp only [legal, app, e3] at hl ⊢
    exact hl.1
  by_cases e4 : rK r = 4
  · simp only [legal, app, e4] at hl ⊢
    exact wcon_cut hw hl
  by_cases e5 : rK r = 5
  · simp only [legal, app, e5] at hl ⊢
    exact wcon_link hw hl.1 hl.2.2.1 hl.2.2.2
  · exfalso
    unfold legal at hl
    split at hl
    · exact e1 (by assumption)
    · exact e2 (by assumption)
    · exact e3 (by assumption)
    · exact e4 (by assumption)
    · exact e5 (by assumption)
    · exact hl
theorem c32 {S : zS} {d sl N k : Nat} {lg : Nat → aRec} {fo : Nat} {im : Nat → Nat} {dm : Nat → Bool} {bk : Nat → Option Nat} {pl : List Nat} {r w e q : Int32} (hX : lkX S d sl N k lg fo im dm bk pl r w e q) (hk : k + 1 ≤ N) (hN : N ≤ 1144) (hrec : ∀ j, 1 ≤ j → j ≤ k + 1 → wrec (lg j) j) (h198 : S 198 (k + 1) 0 = nI 0)
    (hleg : rK (lg (k + 1)) < 6 → legal (lg (k + 1)) (con lg (rP (lg (k + 1))) k) ∧ wcon (con lg (rP (lg (k + 1))) k)) (hpg : pgs lg k ≤ 64) :
    zwp 32 (0, zent 32 [.inr (some (0, 0)), .inr (some (3, k + 1))], [], (S, d)) (fun o t => ∃ S', o = .inl none ∧ t = (S', d) ∧ lkX S' d sl N (k + 1) lg fo im dm bk pl r w e q ∧ zkp S S') := by
  obtain ⟨⟨x1, x2, x3, x4, x5, x6, x7⟩, l2, l3, l4, l5, l6, l7, l8⟩ := id hX
  obtain ⟨⟨b1, b2, b3, b4, b5, b6, b7⟩, bB⟩ := x6 (k + 1) (by omega) hk
  have hr1 := hrec (k + 1) (by omega) (Nat.le_refl _)
  have hfar : undn lg (k + 1) k = false := undn_far (fun j h1 h2 => (hrec j h1 (by omega)).2.2.2.1) (Nat.lt_succ_self k)
  by_cases h6 : rK (lg (k + 1)) < 6
  · obtain ⟨hlg, hwc⟩ := hleg h6
    have hp : rP (lg (k + 1)) < 40 := hr1.2.1 h6
    rw [if_pos h6] at b3
    have hpgk : isPg (rP (lg (k + 1))) (lg (k + 1)) = true := decide_eq_true ⟨h6, rfl⟩
    obtain ⟨a1, a2, a3, a4, a5, a6⟩ := l3 _ hp
    have hcn := cnt_le lg (rP (lg (k + 1))) k
    have fin : ∀ S1 : zS, zfr S S1 (pcon (rP (lg (k + 1)))) → lcon S1 (rP (lg (k + 1))) (app (lg (k + 1)) (con lg (rP (lg (k + 1))) k)) → zwp 32 (132, [some (.inr (some (0, 0))), some (.inr (some (3, k + 1))), some (.inr (some (11, rP (lg (k + 1)))))], [], (S1, d)) (fun o t => ∃ S', o = .inl none ∧ t = (S', d) ∧ lkX S' d sl N (k + 1) lg fo im dm bk pl r w e q ∧ zkp S S') := by
      intro S1 f1 g1
      have hS1 : ∀ f i j, f ≠ 768 → f ≠ 769 → f ≠ 832 → f ≠ 896 → S1 f i j = S f i j := fun f i j q1 q2 q3 q4 => f1 f i j (fun z => by rcases z.1 with z | z | z | z <;> omega)
      have hmax : (if S1 4 0 0 < S1 194 (k + 1) 0 + nI 1 then S1 194 (k + 1) 0 + nI 1 else S1 4 0 0) = nI (pgs lg (k + 1)) := by
        rw [hS1 4 _ _ (by decide) (by decide) (by decide) (by decide), hS1 194 _ _ (by decide) (by decide) (by decide) (by decide), l2, b3, nI_add, pgs, if_pos h6]
        by_cases hlt : pgs lg k < rP (lg (k + 1)) + 1
        · rw [if_pos (by rw [nI_lt_iff (by omega) (by omega)]; exact hlt), Nat.max_eq_right (by omega)]
        · rw [if_neg (by rw [nI_lt_iff (by omega) (by omega)]; exact hlt), Nat.max_eq_left (by omega)]
      -- whichever way the flags go
      have link : ∀ S' : zS, (∀ f i j, f ≠ 705 → f ≠ 706 → f ≠ 4 → f ≠ 198 → S' f i j = S1 f i j) → (∀ i j, i ≠ rP (lg (k + 1)) → S' 705 i j = S1 705 i j ∧ S' 706 i j = S1 706 i j) → S' 705 (rP (lg (k + 1))) 0 = nI (k + 1) → S' 706 (rP (lg (k + 1))) 0 = S1 706 (rP (lg (k + 1))) 0 + nI 1 → S' 4 0 0 = nI (pgs lg (k + 1)) → (∀ m, 1 ≤ m → m ≤ k + 1 → S' 198 m 0 = b2i (undn lg m (k + 1))) → lkX S' d sl N (k + 1) lg fo im dm bk pl r w e q ∧ zkp S S' := by
        intro S' hk1 hk2 hk3 hk4 hk5 hk6
        have hK : ∀ f i j, f ≠ 705 → f ≠ 706 → f ≠ 4 → f ≠ 198 → f ≠ 768 → f ≠ 769 → f ≠ 832 → f ≠ 896 → S' f i j = S f i j := fun f i j q1 q2 q3 q4 q5 q6 q7 q8 => (hk1 f i j q1 q2 q3 q4).trans (hS1 f i j q5 q6 q7 q8)
        refine ⟨⟨⟨?_, ?_, ?_, x4, x5, fun m q1 q2 => ⟨?_, ?_⟩, hk6⟩, hk5, fun x hx => ?_, lpool_congr (fun f j hf => hK f 0 j (by omega) (by omega) (by omega) (by omega) (by omega) (by omega) (by omega) (by omega)) l4, ?_, ?_, ?_, ?_⟩, fun f i j hf => hK f i j (by omega) (by omega) (by omega) (by omega) (by omega) (by omega) (by omega) (by omega)⟩
        · rw [hK 65 _ _ (by decide) (by decide) (by decide) (by decide) (by decide) (by decide) (by decide) (by decide)]
          exact x1
        · rw [hK 66 _ _ (by decide) (by decide) (by decide) (by decide) (by decide) (by decide) (by decide) (by decide)]
          exact x2
        · rw [hK 67 _ _ (by decide) (by decide) (by decide) (by decide) (by decide) (by decide) (by decide) (by decide)]
          exact x3
        · exact lrH_congr (fun f j z1 z2 z3 => hK f m j (by omega) (by omega) (by omega) z3 (by omega) (by omega) (by omega) (by omega)) (x6 m q1 q2).1
        · exact lrB_congr (fun f j z1 z2 => hK f m j (by omega) (by omega) (by omega) (by omega) (by omega) (by omega) (by omega) (by omega)) (x6 m q1 q2).2
        · by_cases ex : x = rP (lg (k + 1))
          · subst ex
            refine ⟨?_, ?_, ?_, ?_, ?_, ?_⟩
            · rw [hk3, lat, if_pos hpgk]
            · rw [hk4, hS1 706 _ _ (by decide) (by decide) (by decide) (by decide), a2, nI_add, cnt, if_pos hpgk]
            · rw [con, if_pos hpgk]
              exact lcon_congr (fun f j hf => hk1 f _ j (by omega) (by omega) (by omega) (by omega)) g1
            · rw [hK 707 _ _ (by decide) (by decide) (by decide) (by decide) (by decide) (by decide) (by decide) (by decide)]
              exact a4
            · rw [hK 708 _ _ (by decide) (by decide) (by decide) (by decide) (by decide) (by decide) (by decide) (by decide)]
              exact a5
            · rw [hK 709 _ _ (by decide) (by decide) (by decide) (by decide) (by decide) (by decide) (by decide) (by decide)]
              exact a6
          · have hnp : isPg x (lg (k + 1)) = false := decide_eq_false (fun z => ex z.2.symm)
            obtain ⟨c1, c2, c3, c4, c5, c6⟩ := l3 x hx
            refine ⟨?_, ?_, ?_, ?_, ?_, ?_⟩
            · rw [(hk2 x 0 ex).1, hS1 705 _ _ (by decide) (by decide) (by decide) (by decide), lat, if_neg (by rw [hnp]; decide)]
              exact c1
            · rw [(hk2 x 0 ex).2, hS1 706 _ _ (by decide) (by decide) (by decide) (by decide), cnt, if_neg (by rw [hnp]; decide)]
              exact c2
            · rw [con, if_neg (by rw [hnp]; decide)]
              exact lcon_congr (fun f j hf => (hk1 f x j (by omega) (by omega) (by omega) (by omega)).trans (f1 f x j (fun z => ex z.2))) c3
            · rw [hK 707 _ _ (by decide) (by decide) (by decide) (by decide) (by decide) (by decide) (by decide) (by decide)]
              exact c4
            · rw [hK 708 _ _ (by decide) (by decide) (by decide) (by decide) (by decide) (by decide) (by decide) (by decide)]
              exact c5
            · rw [hK 709 _ _ (by decide) (by decide) (by decide) (by decide) (by decide) (by decide) (by decide) (by decide)]
              exact c6
        · rw [hK 8 _ _ (by decide) (by decide) (by decide) (by decide) (by decide) (by decide) (by decide) (by decide)]
          exact l5
        · rw [hK 9 _ _ (by decide) (by decide) (by decide) (by decide) (by decide) (by decide) (by decide) (by decide)]
          exact l6
        · rw [hK 10 _ _ (by decide) (by decide) (by decide) (by decide) (by decide) (by decide) (by decide) (by decide)]
          exact l7
        · rw [hK 11 _ _ (by decide) (by decide) (by decide) (by decide) (by decide) (by decide) (by decide) (by decide)]
          exact l8
      have u197 : S1 197 (k + 1) 0 = nI (rU (lg (k + 1))) := by rw [hS1 197 _ _ (by decide) (by decide) (by decide) (by decide)]; exact b6
      have u192 : S1 192 (k + 1) 0 = nI (k + 1) := by rw [hS1 192 _ _ (by decide) (by decide) (by decide) (by decide)]; exact b1
      have u198 : ∀ m, S1 198 m 0 = S 198 m 0 := fun m => hS1 198 _ _ (by decide) (by decide) (by decide) (by decide)
      have hru := hr1.2.2.2.1
      have old : ∀ m, 1 ≤ m → m ≤ k + 1 → S 198 m 0 = b2i (undn lg m k) := by
        intro m q1 q2
        by_cases em : m = k + 1
        · rw [em, h198, hfar]
          rfl
        · exact x7 m q1 (by omega)
      refine w32_132 ⟨fun h0 => ⟨_, rfl, rfl, link _ (fun f i j q1 q2 q3 q4 => by rw [zu_f _ _ q3, zu_f _ _ q2, zu_f _ _ q1]) (fun i j hi => ⟨by rw [zu_f _ _ (by decide), zu_f _ _ (by decide), zu_i _ _ hi], by rw [zu_f _ _ (by decide), zu_i _ _ hi, zu_f _ _ (by decide)]⟩) (by rw [zu_f _ _ (by decide), zu_f _ _ (by decide), zu_self]; exact u192) (by rw [zu_f _ _ (by decide), zu_self]) (by rw [zu_self]; exact hmax) (fun m q1 q2 => ?_)⟩, fun h0 => ⟨rU (lg (k + 1)), u197, by omega, ?_, _, rfl, rfl, link _ (fun f i j q1 q2 q3 q4 => by rw [zu_f _ _ q4, zu_f _ _ q3, zu_f _ _ q2, zu_f _ _ q1]) (fun i j hi => ⟨by rw [zu_f _ _ (by decide), zu_f _ _ (by decide), zu_f _ _ (by decide), zu_i _ _ hi], by rw [zu_f _ _ (by decide), zu_f _ _ (by decide), zu_i _ _ hi, zu_f _ _ (by decide)]⟩) (by rw [zu_f _ _ (by decide), zu_f _ _ (by decide), zu_f _ _ (by decide), zu_self]; exact u192) (by rw [zu_f _ _ (by decide), zu_f _ _ (by decide), zu_self]) (by rw [zu_f _ _ (by decide), zu_self]; exact hmax) (fun m q1 q2 => ?_)⟩⟩
      · rw [zu_f _ _ (by decide), zu_f _ _ (by decide), zu_f _ _ (by decide), u198, old m q1 q2]
        rw [u197, ← nI_0, nI_eq_iff (by omega) (by omega)] at h0
        rw [undn, decide_eq_false (by omega), Bool.false_or]
      · rw [u197, ← nI_0, nI_eq_iff (by omega) (by omega)] at h0
        omega
      · by_cases em : m = rU (lg (k + 1))
        · rw [em, zu_self, undn, decide_eq_true rfl, Bool.true_or]
          rfl
        · rw [zu_i _ _ em, zu_f _ _ (by decide), zu_f _ _ (by decide), zu_f _ _ (by decide), u198, old m q1 q2, undn, decide_eq_false (fun z => em z.symm), Bool.false_or]
    have hK1 := hr1.1
    -- which kind
    have hno : ¬ S 194 (k + 1) 0 = zint (-1) := by
      rw [b3]
      exact nI_ne_m1 (by omega)
    refine w32_0 ⟨fun z => absurd z hno, fun _ => ⟨rP (lg (k + 1)), b3, hp, fun ek => ?_, fun ek => ?_, fun ek => ?_, fun ek => ?_, fun ek => ?_, fun n1 n2 n3 n4 n5 => ?_⟩⟩
    · rw [b2, nI_eq_iff (by omega) (by omega)] at ek
      unfold legal at hlg
      unfold lrB at bB
      simp only [ek] at hlg bB
      rw [bB.1, bB.2.1]
      refine zwp_mono (c71 a3 hwc hlg.1 hr1.2.2.2.2.2.1 hlg.2) (fun o t h => ?_)
      obtain ⟨S1, rfl, rfl, f1, g1⟩ := h
      refine w32_71 (fin S1 f1 ?_)
      unfold app
      simp only [ek]
      exact g1
    · rw [b2, nI_eq_iff (by omega) (by omega)] at ek
      unfold legal at hlg
      unfold lrB at bB
      simp only [ek] at hlg bB
      rw [bB.1]
      refine zwp_mono (c72 a3 hwc hlg.1 hr1.2.2.2.2.2.1 hlg.2) (fun o t h => ?_)
      obtain ⟨S1, rfl, rfl, f1, g1⟩ := h
      refine w32_85 (fin S1 f1 ?_)
      unfold app
      simp only [ek]
      exact g1
    · rw [b2, nI_eq_iff (by omega) (by omega)] at ek
      unfold lrB at bB
      simp only [ek] at bB
      refine zwp_mono (c65 bB) (fun o t h => ?_)
      obtain ⟨S1, rfl, rfl, f1, g1⟩ := h
      refine w32_96 (fin S1 f1 ?_)
      unfold app
      simp only [ek]
      exact g1
    · rw [b2, nI_eq_iff (by omega) (by omega)] at ek
      unfold legal at hlg
      simp only [ek] at hlg
      refine fin _ (zfr.up ⟨by simp, rfl⟩) ?_
      unfold app
      simp only [ek]
      refine ⟨?_, ?_, fun i h hi => ?_, fun i v hi => ?_⟩
      · rw [zu_f _ _ (by decide)]
        exact a3.1
      · rw [zu_self]
        show nI 2 = nI ((con lg (rP (lg (k + 1))) k).2.1.take 2).length
        rw [List.length_take, hlg]
        rfl
      · rw [zu_f _ _ (by decide)]
        refine a3.2.2.1 i h ?_
        have hi' : ((con lg (rP (lg (k + 1))) k).2.1.take 2)[i]? = some h := hi
        have hil := (List.getElem?_eq_some_iff.mp hi').1
        rw [List.length_take] at hil
        rw [List.getElem?_take_of_lt (by omega)] at hi'
        exact hi'
      · rw [zu_f _ _ (by decide)]
        refine a3.2.2.2 i v ?_
        have hi' : ((con lg (rP (lg (k + 1))) k).2.2.take (if (con lg (rP (lg (k + 1))) k).1 = true then 1 else 2))[i]? = some v := hi
        have hil := (List.getElem?_eq_some_iff.mp hi').1
        rw [List.length_take] at hil
        rw [List.getElem?_take_of_lt (by omega)] at hi'
        exact hi'
    · rw [b2, nI_eq_iff (by omega) (by omega)] at ek
      unfold legal at hlg
      unfold lrB at bB
      simp only [ek] at hlg bB
      rw [bB.1, bB.2.1, bB.2.2]
      refine zwp_mono (c73 a3 hwc hlg.1 (hwc.2.1 _ hlg.2.1) hlg.2.1 hlg.2.2.1) (fun o t h => ?_)
      obtain ⟨S1, rfl, rfl, f1, g1⟩ := h
      refine w32_129 (fin S1 f1 ?_)
      unfold app
      simp only [ek]
      exact g1
    · exfalso
      rw [b2, nI_eq_iff (by omega) (by omega)] at n1 n2 n3 n4 n5
      have h0 : rK (lg (k + 1)) = 0 := by omega
      unfold legal at hlg
      simp only [h0] at hlg
  · rw [if_neg h6] at b3
    have hnp : ∀ x, isPg x (lg (k + 1)) = false := fun x => decide_eq_false (fun z => h6 z.1)
    refine w32_0 ⟨fun _ => ⟨S, rfl, rfl, ⟨⟨x1, x2, x3, x4, x5, x6, fun m q1 q2 => ?_⟩, ?_, fun x hx => ?_, l4, l5, l6, l7, l8⟩, zkp.rf S⟩, fun z => absurd b3 z⟩
    · have hu0 := hr1.2.2.2.2.2.2 (by omega)
      rw [undn, decide_eq_false (by omega), Bool.false_or]
      by_cases em : m = k + 1
      · rw [em, h198, hfar]
        rfl
      · exact x7 m q1 (by omega)
    · rw [pgs, if_neg h6]
      exact l2
    · obtain ⟨c1, c2, c3, c4, c5, c6⟩ := l3 x hx
      refine ⟨?_, ?_, ?_, c4, c5, c6⟩
      · rw [lat, if_neg (by rw [hnp]; decide)]
        exact c1
      · rw [cnt, if_neg (by rw [hnp]; decide)]
        exact c2
      · rw [con, if_neg (by rw [hnp]; decide)]
        exact c3
