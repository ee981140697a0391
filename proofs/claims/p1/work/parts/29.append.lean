/-! A record is added and comes into force, in the class. -/
def aAdd (A : aSt) (x : aRec) : aSt := match A with
  | (lg, n, fo, im, dm, bk, pl, r, w, e, q) => (upL lg (n + 1) x, n + 1, fo, im, dm, bk, pl, r, w, e, q)
theorem up_pre {lg : Nat → aRec} {n m : Nat} {x : aRec} (h : m ≤ n) : upL lg (n + 1) x m = lg m := upL_ne x (by omega)
theorem addX {S0 S : zS} {d0 d sl n : Nat} {lg : Nat → aRec} {fo : Nat} {im : Nat → Nat} {dm : Nat → Bool} {bk : Nat → Option Nat} {pl : List Nat} {r w e q : Int32} {x : aRec} (hl : lkC S0 d0 sl (lg, n, fo, im, dm, bk, pl, r, w, e, q)) (hf : zfr S0 S (prow (n + 1))) (hd1 : n + 1 ≤ d) (hd2 : d < 1145) (h65 : S 65 0 0 = nI (n + 1)) (hH : lrH S (n + 1) (lat lg (rP x) n) x) (hB : lrB S (n + 1) x) :
    lkX S d sl (n + 1) n (upL lg (n + 1) x) fo im dm bk pl r w e q := by
  obtain ⟨⟨a1, a2, a3, a4, a5, a6⟩, l2, l3, l4, l5, l6, l7, l8⟩ := hl
  have hk : ∀ f i j, f ≠ 65 → ¬ (192 ≤ f ∧ f < 256 ∧ i = n + 1) → S f i j = S0 f i j := fun f i j q1 q2 => hf f i j (fun z => z.elim (fun z => q1 z.1) q2)
  refine ⟨⟨h65, by rw [hk 66 _ _ (by decide) (by omega)]; exact a2, by rw [hk 67 _ _ (by decide) (by omega)]; exact a3, hd1, hd2, fun m h1 h2 => ?_, fun m h1 h2 => ?_⟩, ?_, fun y hy => ?_, lpool_congr (fun f j hf => hk f 0 j (by omega) (by omega)) l4, by rw [hk 8 _ _ (by decide) (by omega)]; exact l5, by rw [hk 9 _ _ (by decide) (by omega)]; exact l6, by rw [hk 10 _ _ (by decide) (by omega)]; exact l7, by rw [hk 11 _ _ (by decide) (by omega)]; exact l8⟩
  · by_cases em : m = n + 1
    · subst em
      rw [upL_self, show n + 1 - 1 = n by omega, lat_congr (lg := lg) (fun i q1 q2 => up_pre q2)]
      exact ⟨hH, hB⟩
    · obtain ⟨b1, b2, b3⟩ := a6 m h1 (by omega)
      rw [up_pre (by omega), lat_congr (lg := lg) (fun i q1 q2 => up_pre (by omega))]
      exact ⟨lrH_congr (fun f j z1 z2 _ => hk f m j (by omega) (by omega)) b1, lrB_congr (fun f j z1 z2 => hk f m j (by omega) (by omega)) b3⟩
  · rw [hk 198 _ _ (by decide) (by omega), undn_congr (lg := lg) (fun i q1 q2 => up_pre q2)]
    exact (a6 m h1 h2).2.1
  · rw [hk 4 _ _ (by decide) (by omega), pgs_congr (lg := lg) (fun i q1 q2 => up_pre q2)]
    exact l2
  · obtain ⟨c1, c2, c3, c4, c5, c6⟩ := l3 y hy
    refine ⟨?_, ?_, ?_, ?_, ?_, ?_⟩
    · rw [hk 705 _ _ (by decide) (by omega), lat_congr (lg := lg) (fun i q1 q2 => up_pre q2)]
      exact c1
    · rw [hk 706 _ _ (by decide) (by omega), cnt_congr (lg := lg) (fun i q1 q2 => up_pre q2)]
      exact c2
    · rw [con_congr (lg := lg) (fun i q1 q2 => up_pre q2)]
      exact lcon_congr (fun f j hf => hk f y j (by omega) (by omega)) c3
    · rw [hk 707 _ _ (by decide) (by omega)]
      exact c4
    · rw [hk 708 _ _ (by decide) (by omega)]
      exact c5
    · rw [hk 709 _ _ (by decide) (by omega)]
      exact c6
theorem zkp_row {S S' : zS} {n : Nat} (hf : zfr S S' (prow n)) : zkp S S' := zkp.of hf (fun f i z => by rcases z with z | z <;> omega)
-- how many pages there are is small
def gL (A : aSt) : Nat → aRec := A.1
def gN (A : aSt) : Nat := A.2.1
theorem pgs_le {lg : Nat → aRec} : ∀ {n : Nat}, (∀ k, 1 ≤ k → k ≤ n → wrec (lg k) k) → pgs lg n ≤ 40
  | 0, _ => by unfold pgs; omega
  | n + 1, h => by
    have h1 := pgs_le (n := n) (fun k q1 q2 => h k q1 (by omega))
    have h2 := h (n + 1) (by omega) (Nat.le_refl _)
    unfold pgs
    split
    · rename_i h6
      have := h2.2.1 h6
      exact Nat.max_le.mpr ⟨h1, by omega⟩
    · exact h1
def okr (A : aSt) (x : aRec) : Prop := wrec x (gN A + 1) ∧ (rK x < 6 → legal x (con (gL A) (rP x) (gN A)))
theorem wA_add {A : aSt} {x : aRec} (h : wA A) (hx : okr A x) (hn : gN A < 1144) : wA (aAdd A x) := by
  obtain ⟨lg, n, fo, im, dm, bk, pl, r, w, e, q⟩ := A
  obtain ⟨h1, h2, h3, h4, h5, h6, h7, h8⟩ := h
  obtain ⟨hx1, hx2⟩ := hx
  have hn' : n < 1144 := hn
  refine ⟨hn', h2, fun k q1 q2 => ?_, fun p => ?_, h5, h6, fun p => Nat.le_succ_of_le (h7 p), fun p y hy => Nat.le_succ_of_le (h8 p y hy)⟩
  · by_cases e1 : k = n + 1
    · subst e1
      rw [upL_self]
      exact hx1
    · rw [up_pre (by omega)]
      exact h3 k q1 (by omega)
  · rw [con, upL_self, con_congr (lg := lg) (fun i q1 q2 => up_pre q2)]
    by_cases hp : isPg p x = true
    · rw [if_pos hp]
      have hp' := of_decide_eq_true hp
      have hleg := hx2 hp'.1
      rw [hp'.2] at hleg
      exact wcon_app (h4 p) hleg hx1.2.2.2.2.2.1
    · rw [if_neg hp]
      exact h4 p
-- enforce behind add
theorem cAdd {S0 S : zS} {d0 d sl : Nat} {A : aSt} {x : aRec} (hl : lkC S0 d0 sl A) (hw : wA A) (hn : gN A < 1144) (hx : okr A x) (hf : zfr S0 S (prow (gN A + 1))) (hd1 : gN A + 1 ≤ d) (hd2 : d < 1145) (h65 : S 65 0 0 = nI (gN A + 1)) (hH : lrH S (gN A + 1) (lat (gL A) (rP x) (gN A)) x) (hB : lrB S (gN A + 1) x) (h198 : S 198 (gN A + 1) 0 = nI 0) :
    zwp 32 (0, zent 32 [.inr (some (0, 0)), .inr (some (3, gN A + 1))], [], (S, d)) (fun o t => ∃ S', o = .inl none ∧ t = (S', d) ∧ lkC S' d sl (aAdd A x) ∧ zkp S0 S') := by
  obtain ⟨lg, n, fo, im, dm, bk, pl, r, w, e, q⟩ := A
  have hX := addX hl hf hd1 hd2 h65 hH hB
  have hw2 := wA_add hw hx hn
  obtain ⟨h1, h2, h3, h4, h5, h6, h7, h8⟩ := hw
  obtain ⟨g1, g2, g3, g4, g5, g6, g7, g8⟩ := hw2
  have hn' : n < 1144 := hn
  have e1 : upL lg (n + 1) x (n + 1) = x := upL_self lg (n + 1) x
  show zwp 32 (0, zent 32 [.inr (some (0, 0)), .inr (some (3, n + 1))], [], (S, d)) _
  refine zwp_mono (c32 (k := n) hX (Nat.le_refl _) (by omega) (fun j q1 q2 => g3 j q1 q2) h198 (fun hk6 => ?_) ?_) (fun o t h => ?_)
  · rw [e1] at hk6 ⊢
    rw [con_congr (lg := lg) (fun i q1 q2 => up_pre q2)]
    exact ⟨hx.2 hk6, h4 _⟩
  · rw [pgs_congr (lg := lg) (lg' := upL lg (n + 1) x) (fun i q1 q2 => up_pre q2)]
    have := pgs_le h3
    omega
  · obtain ⟨S', rfl, rfl, k1, z1⟩ := h
    exact ⟨S', rfl, rfl, lkC_X.mpr k1, (zkp_row hf).tr z1⟩
-- a record that stands alone
theorem cEnd {S0 S : zS} {d0 d sl : Nat} {A : aSt} {x : aRec} (hl : lkC S0 d0 sl A) (hw : wA A) (hn : gN A < 1144) (hx : okr A x) (h6 : 6 ≤ rK x) (hf : zfr S0 S (prow (gN A + 1))) (hd1 : gN A + 1 ≤ d) (hd2 : d < 1145) (h65 : S 65 0 0 = nI (gN A + 1)) (hH : lrH S (gN A + 1) (lat (gL A) (rP x) (gN A)) x) (h198 : S 198 (gN A + 1) 0 = nI 0) : lkC S d sl (aAdd A x) := by
  obtain ⟨lg, n, fo, im, dm, bk, pl, r, w, e, q⟩ := A
  have hB : lrB S (n + 1) x := by
    unfold lrB
    split
    · omega
    · omega
    · omega
    · omega
    · trivial
  obtain ⟨⟨x1, x2, x3, x4, x5, x6, x7⟩, l2, l3, l4⟩ := addX hl hf hd1 hd2 h65 hH hB
  have e1 : upL lg (n + 1) x (n + 1) = x := upL_self lg (n + 1) x
  have hnp : ∀ y, isPg y x = false := fun y => decide_eq_false (fun z => by omega)
  have hu0 := hx.1.2.2.2.2.2.2 h6
  have hfar : undn (upL lg (n + 1) x) (n + 1) n = false := undn_far (fun j q1 q2 => by
    rw [up_pre q2]
    exact (hw.2.2.1 j q1 q2).2.2.2.1) (Nat.lt_succ_self n)
  refine lkC_X.mpr ⟨⟨x1, x2, x3, x4, x5, x6, fun m q1 q2 => ?_⟩, ?_, fun y hy => ?_, l4⟩
  · rw [undn, e1, decide_eq_false (by omega), Bool.false_or]
    by_cases em : m = n + 1
    · rw [em, hfar]
      exact h198
    · exact x7 m q1 (by omega)
  · rw [pgs, e1, if_neg (by omega)]
    exact l2
  · obtain ⟨c1, c2, c3, c4, c5, c6⟩ := l3 y hy
    refine ⟨?_, ?_, ?_, c4, c5, c6⟩
    · rw [lat, e1, if_neg (by rw [hnp]; decide)]
      exact c1
    · rw [cnt, e1, if_neg (by rw [hnp]; decide)]
      exact c2
    · rw [con, e1, if_neg (by rw [hnp]; decide)]
      exact c3
-- what a key's entry is before a change
def aOld (k : Nat) (c : aCon) : Int32 := if k ∈ c.2.1 then c.2.2.getD (lidx k c.2.1) 0 else nI 0
def aLast (sl n : Nat) : Nat := if n + 1 < sl then sl else n + 1
-- PageKeeper.addChange
theorem c27 {S : zS} {d sl K p s k u : Nat} {A : aSt} (hl : lkC S d sl A) (hw : wA A) (hn : gN A < 1144) (hp : p < 40) (hk : k < 64) (hsl : sl < 2000) (hb : (con (gL A) p (gN A)).1 = false) :
    zwp 27 (0, zent 27 [.inr (some (0, 0)), .inl (nI K), .inl (nI p), .inl (nI s), .inl (nI k), .inl (nI u)], [], (S, d)) (fun o t => ∃ S' d', o = .inl (some (.inr (some (3, gN A + 1)))) ∧ t = (S', d') ∧ gN A + 1 ≤ d' ∧ d' < 1145 ∧ zfr S S' (prow (gN A + 1)) ∧ S' 65 0 0 = nI (gN A + 1) ∧ S' 192 (gN A + 1) 0 = nI (gN A + 1) ∧ S' 193 (gN A + 1) 0 = nI K ∧ S' 194 (gN A + 1) 0 = nI p ∧ S' 195 (gN A + 1) 0 = nI (lat (gL A) p (gN A)) ∧ S' 196 (gN A + 1) 0 = nI s ∧ S' 197 (gN A + 1) 0 = nI u ∧ S' 198 (gN A + 1) 0 = nI 0 ∧ S' 199 (gN A + 1) 0 = nI (aLast sl (gN A)) ∧ S' 200 (gN A + 1) 0 = nI k ∧
      S' 206 (gN A + 1) 0 = b2i (decide (k ∈ (con (gL A) p (gN A)).2.1)) ∧ S' 207 (gN A + 1) 0 = aOld k (con (gL A) p (gN A))) := by
  obtain ⟨lg, n, fo, im, dm, bk, pl, r, w, e, q⟩ := A
  obtain ⟨l1, l2, l3, l4⟩ := id hl
  obtain ⟨h1, h2, h3, h4, h5, h6, h7, h8⟩ := hw
  obtain ⟨m1, m2, m3, m4, m5, m6⟩ := id l1
  obtain ⟨a1, a2, a3, a4, a5, a6⟩ := l3 p hp
  have hn' : n < 1144 := hn
  have hwc := h4 p
  have hwl := hwc.1
  have hts : (con lg p n).2.2.length = (con lg p n).2.1.length := by
    have := hwc.2.2.1
    have hb' : (con lg p n).1 = false := hb
    rw [hb'] at this
    simpa using this
  refine w27_0 ⟨p, rfl, hp, zwp_mono (c68 a3 hwc hk) (fun o t h => ?_)⟩
  obtain ⟨rfl, rfl⟩ := h
  refine w27_18 ⟨p, rfl, hp, ?_⟩
  rw [a1]
  refine zwp_mono (c39 m1 m3 hn' m4 m5 hsl) (fun o t h => ?_)
  obtain ⟨S1, d1, rfl, rfl, g1, g2, g3, f1, u65, u192, u193, u194, u195, u196, u197, u198, u199⟩ := h
  have hS1 : ∀ f i j, f ≠ 65 → ¬ (192 ≤ f ∧ f < 256) → S1 f i j = S f i j := fun f i j q1 q2 => f1 f i j (fun z => z.elim (fun z => q1 z.1) (fun z => q2 ⟨z.1, z.2.1⟩))
  have fr : ∀ v1 v2 : Int32, zfr S (zu (zu (zu (zu S1 200 (n + 1) 0 (nI k)) 197 (n + 1) 0 (nI u)) 206 (n + 1) 0 v1) 207 (n + 1) 0 v2) (prow (n + 1)) := by
    intro v1 v2 f i j hnp
    have hq : ∀ g, 192 ≤ g → g < 256 → ¬ (f = g ∧ i = n + 1 ∧ j = 0) := fun g z1 z2 z => hnp (Or.inr ⟨by omega, by omega, z.2.1⟩)
    unfold zu
    rw [if_neg (hq 207 (by decide) (by decide)), if_neg (hq 206 (by decide) (by decide)), if_neg (hq 197 (by decide) (by decide)), if_neg (hq 200 (by decide) (by decide))]
    exact f1 f i j hnp
  have done : ∀ v1 v2 : Int32, v1 = b2i (decide (k ∈ (con lg p n).2.1)) → v2 = aOld k (con lg p n) → ∃ S' d', (Sum.inl (some (Sum.inr (some (3, n + 1)))) : zO) = .inl (some (.inr (some (3, n + 1)))) ∧ ((zu (zu (zu (zu S1 200 (n + 1) 0 (nI k)) 197 (n + 1) 0 (nI u)) 206 (n + 1) 0 v1) 207 (n + 1) 0 v2, d1) : zT) = (S', d') ∧ n + 1 ≤ d' ∧ d' < 1145 ∧ zfr S S' (prow (n + 1)) ∧ S' 65 0 0 = nI (n + 1) ∧ S' 192 (n + 1) 0 = nI (n + 1) ∧ S' 193 (n + 1) 0 = nI K ∧ S' 194 (n + 1) 0 = nI p ∧ S' 195 (n + 1) 0 = nI (lat lg p n) ∧ S' 196 (n + 1) 0 = nI s ∧ S' 197 (n + 1) 0 = nI u ∧ S' 198 (n + 1) 0 = nI 0 ∧ S' 199 (n + 1) 0 = nI (aLast sl n) ∧ S' 200 (n + 1) 0 = nI k ∧
      S' 206 (n + 1) 0 = b2i (decide (k ∈ (con lg p n).2.1)) ∧ S' 207 (n + 1) 0 = aOld k (con lg p n) := by
    intro v1 v2 e1 e2
    refine ⟨_, _, rfl, rfl, g2, g3, fr _ _, ?_, ?_, ?_, ?_, ?_, ?_, ?_, ?_, ?_, ?_, ?_, ?_⟩
    · rw [zu_f _ _ (by decide), zu_f _ _ (by decide), zu_f _ _ (by decide), zu_f _ _ (by decide)]; exact u65
    · rw [zu_f _ _ (by decide), zu_f _ _ (by decide), zu_f _ _ (by decide), zu_f _ _ (by decide)]; exact u192
    · rw [zu_f _ _ (by decide), zu_f _ _ (by decide), zu_f _ _ (by decide), zu_f _ _ (by decide)]; exact u193
    · rw [zu_f _ _ (by decide), zu_f _ _ (by decide), zu_f _ _ (by decide), zu_f _ _ (by decide)]; exact u194
    · rw [zu_f _ _ (by decide), zu_f _ _ (by decide), zu_f _ _ (by decide), zu_f _ _ (by decide)]; exact u195
    · rw [zu_f _ _ (by decide), zu_f _ _ (by decide), zu_f _ _ (by decide), zu_f _ _ (by decide)]; exact u196
    · rw [zu_f _ _ (by decide), zu_f _ _ (by decide), zu_self]
    · rw [zu_f _ _ (by decide), zu_f _ _ (by decide), zu_f _ _ (by decide), zu_f _ _ (by decide)]; exact u198
    · rw [zu_f _ _ (by decide), zu_f _ _ (by decide), zu_f _ _ (by decide), zu_f _ _ (by decide)]; exact u199
    · rw [zu_f _ _ (by decide), zu_f _ _ (by decide), zu_f _ _ (by decide), zu_self]
    · rw [zu_f _ _ (by decide), zu_self]; exact e1
    · rw [zu_self]; exact e2
  refine w27_39 ⟨fun hm => ?_, fun hm => ?_⟩
  · refine w27_68 ⟨by decide, fun _ => ?_, fun z => absurd hm z⟩
    rw [zix_m1 (by omega)] at hm
    exact done _ _ (by rw [decide_eq_false hm]; rfl) (by unfold aOld; rw [if_neg hm])
  · refine w27_68 ⟨by decide, fun z => absurd z hm, fun _ => ?_⟩
    rw [zix_m1 (by omega), Decidable.not_not] at hm
    have hat := (lidx_mem hm).1
    obtain ⟨v, hv⟩ := lget (l := (con lg p n).2.2) (i := lidx k (con lg p n).2.1) (by omega)
    refine ⟨lidx k (con lg p n).2.1, zix_in hm, by omega, done _ _ (by rw [decide_eq_true hm]; rfl) ?_⟩
    unfold aOld
    rw [if_pos hm, List.getD_eq_getElem?_getD, hv, zu_f _ _ (by decide), zu_f _ _ (by decide), hS1 896 _ _ (by decide) (by decide)]
    exact a3.2.2.2 _ v hv
