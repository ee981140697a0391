/-! The reference's pool: write, room, fix. -/
abbrev pmm : Nat → Nat → Prop := fun f _ => f = 1025 ∨ f = 1026 ∨ f = 1036 ∨ f = 1038 ∨ (1043 ≤ f ∧ f ≤ 1047) ∨ (1088 ≤ f ∧ f ≤ 1920)
theorem mlog_congr {S S' : zS} {lg : Nat → aRec} {n fo fo' : Nat} (h : ∀ f i j, (f = 1025 ∨ f = 1036 ∨ (1088 ≤ f ∧ f ≤ 1664)) → S' f i j = S f i j) (h26 : S' 1026 0 0 = nI fo') (hl : mlog S lg n fo) : mlog S' lg n fo' := by
  obtain ⟨l1, l2, l3, l4⟩ := hl
  exact ⟨by rw [h _ _ _ (by simp)]; exact l1, h26, by rw [h _ _ _ (by simp)]; exact l3, fun k h1 h2 => ⟨mH_congr (fun f j hf _ => h f 0 j (by omega)) (l4 k h1 h2).1, mB_same (fun f j hf => h f 0 j (by omega)) (l4 k h1 h2).2⟩⟩
theorem mpool_congr {S S' : zS} {pl : List Nat} {ck : Nat} (h : ∀ f j, (f = 1043 ∨ f = 1728) → S' f 0 j = S f 0 j) (hl : mpool S pl ck) : mpool S' pl ck := by
  obtain ⟨l1, fx, l2, l3⟩ := hl
  exact ⟨by rw [h _ _ (by simp)]; exact l1, fx, fun p hp => by rw [h _ _ (by simp)]; exact l2 p hp, l3⟩
theorem mpg_congr {S S' : zS} {im : Nat → Nat} {dm : Nat → Bool} {bk : Nat → Option Nat} {p : Nat} (h : ∀ f, (f = 1792 ∨ f = 1856 ∨ f = 1920) → S' f 0 p = S f 0 p) (hl : mpg S im dm bk p) : mpg S' im dm bk p :=
  ⟨by rw [h _ (by simp)]; exact hl.1, by rw [h _ (by simp)]; exact hl.2.1, by rw [h _ (by simp)]; exact hl.2.2⟩
-- codes beside the link's
theorem lkM_fr {S S' : zS} {ck : Nat} {A : aSt} (h : ∀ f i j, pmm f i → S' f i j = S f i j) (hl : lkM S ck A) : lkM S' ck A := by
  obtain ⟨lg, n, fo, im, dm, bk, pl, r, w, e, q⟩ := A
  obtain ⟨l1, l2, l3, l4, l5, l6, l7, l8⟩ := hl
  exact ⟨mlog_congr (fun f i j hf => h f i j (by show _ ∨ _; omega)) (by rw [h 1026 _ _ (by show _ ∨ _; omega)]; exact l1.2.1) l1, by rw [h 1038 _ _ (by show _ ∨ _; omega)]; exact l2, fun p hp => mpg_congr (fun f hf => h f 0 p (by show _ ∨ _; omega)) (l3 p hp), mpool_congr (fun f j hf => h f 0 j (by show _ ∨ _; omega)) l4, by rw [h 1044 _ _ (by show _ ∨ _; omega)]; exact l5, by rw [h 1045 _ _ (by show _ ∨ _; omega)]; exact l6, by rw [h 1046 _ _ (by show _ ∨ _; omega)]; exact l7, by rw [h 1047 _ _ (by show _ ∨ _; omega)]; exact l8⟩
-- what is forced is whole splits
def whl (A : aSt) : Prop := ∀ k, 1 ≤ k → k ≤ gN A → k ≤ gFo A → rL (gL A k) ≤ gFo A
theorem mH_L {S : zS} {k : Nat} {r : aRec} (h : mH S k r) : k ≤ rL r := by
  obtain ⟨-, -, -, -, x, -, -, h⟩ := h
  split at h <;> omega
section RP
variable {S : zS} {d ck : Nat} {A : aSt}
theorem r83m {lg : Nat → aRec} {n fo m : Nat} (hl : mlog S lg n fo) (hw : wlog lg n) (hm : m ≤ n) (hfo : fo < 2000) (hwh : 1 ≤ m → m ≤ fo → rL (lg m) ≤ fo) : zwp 83 (0, zent 83 [.inr (some (16, 0)), .inl (nI m)], [], (S, d)) (fun o t => ∃ S', o = .inl none ∧ t = (S', d) ∧ zfr S S' (fun f _ => f = 1026) ∧ S' 1026 0 0 = nI (aForce lg m fo)) := by
  by_cases h0 : m = 0
  · subst h0
    have hn := hw.1
    have key : ∀ y : Int32, zwp 83 (20, [some (.inr (some (16, 0))), some (.inl (nI 0)), none], [.inl y], (S, d)) (fun o t => ∃ S', o = .inl none ∧ t = (S', d) ∧ zfr S S' (fun f _ => f = 1026) ∧ S' 1026 0 0 = nI (aForce lg 0 fo)) := by
      intro y
      refine w83_20 ⟨fun _ => ⟨S, rfl, rfl, fun _ _ _ _ => rfl, ?_⟩, fun h => absurd (by rw [hl.2.1, nI_le_iff (by decide) (by omega)]; omega) h⟩
      rw [hl.2.1]
      unfold aForce
      rw [if_neg (by omega)]
    exact w83_0 ⟨0, rfl, by omega, fun _ => key _, fun _ => ⟨0, rfl, by omega, key _⟩⟩
  · have h1 : 1 ≤ m := by omega
    have hL := mH_L (hl.2.2.2 m h1 hm).1
    refine zwp_mono (r83 hl hw h1 hm hfo (hwh h1)) (fun o t h => ?_)
    obtain ⟨rfl, rfl⟩ := h
    unfold aForce
    by_cases hf : fo < m
    · rw [if_pos hf, if_pos (by omega)]
      exact ⟨_, rfl, rfl, fun f i j h => zu_f _ _ h, zu_self _ _ _ _ _⟩
    · have := hwh h1 (by omega)
      rw [if_neg hf, if_neg (by omega)]
      exact ⟨S, rfl, rfl, fun _ _ _ _ => rfl, hl.2.1⟩
theorem nar0 : vp_nar .boolean (nI 0) = nI 0 := by decide
theorem nar1 : vp_nar .boolean (nI 1) = nI 1 := by decide
theorem r84 {p : Nat} (hl : lkM S ck A) (hw : wA A) (hwh : whl A) (hp : p < 48) : zwp 84 (0, zent 84 [.inr (some (16, 0)), .inl (nI p)], [], (S, d)) (fun o t => ∃ S', o = .inl none ∧ t = (S', d) ∧ zfr S S' pmm ∧ (∀ j, S' 1728 0 j = S 1728 0 j) ∧ S' 1043 0 0 = S 1043 0 0 ∧ lkM S' ck (aWrite A p)) := by
  obtain ⟨lg, n, fo, im, dm, bk, pl, r, w, e, q⟩ := A
  have hlg : wlog lg n := hw.log
  obtain ⟨l1, l2, l3, l4, l5, l6, l7, l8⟩ := hl
  obtain ⟨h1, h2, -⟩ := hw
  refine w84_0 (zwp_mono (r78 l1 hlg (by omega)) (fun o t h => ?_))
  obtain ⟨rfl, rfl⟩ := h
  refine w84_5 (zwp_mono (r83m l1 hlg (lat_le lg p n) h2 (fun q1 q2 => hwh _ q1 (lat_le lg p n) q2)) (fun o t h => ?_))
  obtain ⟨S1, rfl, rfl, f0, f1⟩ := h
  have f0 : ∀ f i j, f ≠ 1026 → S1 f i j = S f i j := fun f i j h => f0 f i j h
  refine w84_11 ⟨p, rfl, hp, p, rfl, hp, ⟨_, rfl, rfl, fun f i j h => ?_, fun j => ?_, ?_, ?_⟩⟩
  · rw [zu_f _ _ (fun z => h (by show _ ∨ _; omega)), zu_f _ _ (fun z => h (by show _ ∨ _; omega)), zu_f _ _ (fun z => h (by show _ ∨ _; omega))]
    exact f0 f i j (fun z => h (by show _ ∨ _; omega))
  · rw [zu_f _ _ (by decide), zu_f _ _ (by decide), zu_f _ _ (by decide)]
    exact f0 _ _ _ (by decide)
  · rw [zu_f _ _ (by decide), zu_f _ _ (by decide), zu_f _ _ (by decide)]
    exact f0 _ _ _ (by decide)
  · have hk : ∀ f i j, f ≠ 1026 → f ≠ 1792 → f ≠ 1856 → f ≠ 1045 → zu (zu (zu S1 1792 0 p (nI (lat lg p n))) 1856 0 p (vp_nar .boolean (nI 0))) 1045 0 0 (S1 1045 0 0 + nI 1) f i j = S f i j := fun f i j q1 q2 q3 q4 => by
      rw [zu_f _ _ q4, zu_f _ _ q3, zu_f _ _ q2]
      exact f0 f i j q1
    refine ⟨mlog_congr (fun f i j hf => hk f i j (by omega) (by omega) (by omega) (by omega)) (by rw [zu_f _ _ (by decide), zu_f _ _ (by decide), zu_f _ _ (by decide)]; exact f1) l1, by rw [hk _ _ _ (by decide) (by decide) (by decide) (by decide)]; exact l2, fun x hx => ?_, mpool_congr (fun f j hf => hk f 0 j (by omega) (by omega) (by omega) (by omega)) l4, by rw [hk _ _ _ (by decide) (by decide) (by decide) (by decide)]; exact l5, by rw [zu_self, f0 _ _ _ (by decide), l6], by rw [hk _ _ _ (by decide) (by decide) (by decide) (by decide)]; exact l7, by rw [hk _ _ _ (by decide) (by decide) (by decide) (by decide)]; exact l8⟩
    obtain ⟨a1, a2, a3⟩ := l3 x hx
    unfold mpg upN upB
    by_cases e : x = p
    · rw [if_pos e, if_pos e, e]
      refine ⟨by rw [zu_f _ _ (by decide), zu_f _ _ (by decide), zu_self], by rw [zu_f _ _ (by decide), zu_self]; exact nar0, ?_⟩
      rw [hk _ _ _ (by decide) (by decide) (by decide) (by decide), ← e]
      exact a3
    · rw [if_neg e, if_neg e]
      refine ⟨by rw [zu_f _ _ (by decide), zu_f _ _ (by decide), zu_j _ _ e, f0 _ _ _ (by decide)]; exact a1, by rw [zu_f _ _ (by decide), zu_j _ _ e, zu_f _ _ (by decide), f0 _ _ _ (by decide)]; exact a2, ?_⟩
      rw [hk _ _ _ (by decide) (by decide) (by decide) (by decide)]
      exact a3
-- how many numbers below N are in a list
end RP
def ncm (l : List Nat) : Nat → Nat
  | 0 => 0
  | n + 1 => if n ∈ l then ncm l n + 1 else ncm l n
theorem ncm_le (l : List Nat) : ∀ N, ncm l N ≤ N
  | 0 => Nat.le_refl _
  | n + 1 => by
    have := ncm_le l n
    unfold ncm
    split <;> omega
theorem ncm_cons {a : Nat} {l : List Nat} (ha : a ∉ l) : ∀ N, ncm (a :: l) N = ncm l N + (if a < N then 1 else 0)
  | 0 => by simp [ncm]
  | n + 1 => by
    have ih := ncm_cons ha n
    unfold ncm
    by_cases e : n = a
    · subst e
      rw [if_pos List.mem_cons_self, if_neg ha, ih, if_neg (by omega), if_pos (by omega)]
    · have hm : (n ∈ a :: l) = (n ∈ l) := by simp [e]
      rw [ih]
      by_cases hn : n ∈ l
      · rw [if_pos (by rw [hm]; exact hn), if_pos hn]
        by_cases h2 : a < n
        · rw [if_pos h2, if_pos (by omega)]
        · rw [if_neg h2, if_neg (by omega)]
      · rw [if_neg (by rw [hm]; exact hn), if_neg hn]
        by_cases h2 : a < n
        · rw [if_pos h2, if_pos (by omega)]
        · rw [if_neg h2, if_neg (by omega)]
theorem ncm_nil : ∀ N, ncm [] N = 0
  | 0 => rfl
  | n + 1 => by
    unfold ncm
    rw [if_neg (by simp), ncm_nil n]
theorem ncm_len {N : Nat} : ∀ {l : List Nat}, l.Nodup → (∀ p ∈ l, p < N) → ncm l N = l.length
  | [], _, _ => ncm_nil N
  | a :: l, h, hN => by
    rw [List.nodup_cons] at h
    rw [ncm_cons h.1, ncm_len h.2 (fun p hp => hN p (List.mem_cons_of_mem _ hp)), if_pos (hN a List.mem_cons_self)]
    rfl
-- the page that leaves when one comes
def lv6 (l : List Nat) : Option Nat := if l.length < 6 then none else l[0]?
def dr6 (l : List Nat) : List Nat := if l.length < 6 then l else l.eraseIdx 0
theorem lv6_e {p : Nat} {l : List Nat} (h : p ∉ l) : aLeave p l = lv6 l := by
  unfold aLeave lv6
  by_cases h6 : l.length < 6
  · rw [if_pos (Or.inl h6), if_pos h6]
  · rw [if_neg (fun z => z.elim h6 h), if_neg h6]
theorem dr6_e {p : Nat} {l : List Nat} (h : p ∉ l) (h6 : l.length ≤ 6) : aOut p l = dr6 l := by
  unfold aOut dr6
  rw [if_neg h]
  by_cases h5 : l.length < 6
  · rw [if_neg (by omega), if_pos h5]
  · rw [if_pos (by omega), if_neg h5]
section RQ
variable {S : zS} {d ck : Nat} {A : aSt}
theorem oI_some (x : Nat) : oI (some x) = nI x := rfl
theorem oI_none : oI none = zint (-1) := rfl
-- room
theorem r85 (hl : lkM S ck A) (hw : wA A) (hwh : whl A) (hck : ck < 2 ^ 31) : zwp 85 (0, zent 85 [.inr (some (16, 0))], [], (S, d)) (fun o t => ∃ S', o = .inl none ∧ t = (S', d) ∧ zfr S S' pmm ∧ lkM S' ck (stP (aWin A (lv6 (gP A))) (dr6 (gP A)))) := by
  have hpool : mpool S (gP A) ck := by
    obtain ⟨lg, n, fo, im, dm, bk, pl, r, w, e, q⟩ := A
    exact hl.2.2.2.1
  obtain ⟨p1, fx, p2, p3, p4, p5⟩ := hpool
  obtain ⟨⟨w1, w2, w3⟩, w4⟩ := hw.pool
  have hml : mlog S (gL A) (gN A) (gFo A) := by
    obtain ⟨lg, n, fo, im, dm, bk, pl, r, w, e, q⟩ := A
    exact hl.1
  have hpg : ∀ p, p < 48 → mpg S (gIm A) (gDm A) (gBk A) p := by
    obtain ⟨lg, n, fo, im, dm, bk, pl, r, w, e, q⟩ := A
    exact hl.2.2.1
  have hlen : ncm (gP A) 48 = (gP A).length := ncm_len w3 (fun p hp => by have := w4 p hp; omega)
  have pos : ∀ p, p < 48 → (S 1728 0 p ≤ 0 ↔ p ∉ gP A) := by
    intro p hp
    have h3 := p3 p
    rw [p2 p hp, ← nI_0, nI_le_iff (by omega) (by decide)]
    have := p4 p hp
    constructor
    · intro h hm
      have := this.mpr hm
      omega
    · intro h
      by_cases h0 : 0 < fx p
      · exact absurd (this.mp h0) h
      · omega
  -- the loop
  have key : ∀ (m i : Nat) (o : Option Nat), i + m = 48 → (∀ p, o = none → p < i → p ∉ gP A) → (∀ x, o = some x → x < i ∧ x ∈ gP A ∧ ∀ p, p < i → p ∈ gP A → fx x ≤ fx p) → zwp 85 (6, [some (.inr (some (16, 0))), some (.inl (nI (ncm (gP A) i))), some (.inl (oI o)), some (.inl (nI i))], [], (S, d)) (fun o t => ∃ S', o = .inl none ∧ t = (S', d) ∧ zfr S S' pmm ∧ lkM S' ck (stP (aWin A (lv6 (gP A))) (dr6 (gP A)))) := by
    intro m
    induction m with
    | zero =>
      intro i o hi hn hs
      have hi : i = 48 := by omega
      subst hi
      rw [hlen]
      refine w85_6 ⟨fun _ => ⟨fun h6 => ?_, fun h6 => ?_⟩, fun h => absurd (Int32.le_refl _) h⟩
      · rw [nI_le_iff (by decide) (by omega)] at h6
        have h6' : (gP A).length = 6 := by omega
        obtain ⟨a, ha⟩ := lget (l := gP A) (i := 0) (by omega)
        have ham : a ∈ gP A := List.mem_of_getElem? ha
        have ha4 := w4 a ham
        have ho : o = some a := by
          cases o with
          | none => exact absurd ham (hn a rfl (by omega))
          | some x =>
            obtain ⟨x1, x2, x3⟩ := hs x rfl
            obtain ⟨j, hj⟩ := List.getElem?_of_mem x2
            by_cases hj0 : j = 0
            · rw [hj0, ha] at hj
              exact hj.symm
            · have h1 := p5 0 j a x (by omega) ha hj
              have h2 := x3 a (by omega) ham
              omega
        subst ho
        have elv : lv6 (gP A) = some a := by
          unfold lv6
          rw [if_neg (by omega), ha]
        have edr : dr6 (gP A) = (gP A).eraseIdx 0 := by
          unfold dr6
          rw [if_neg (by omega)]
        rw [elv, edr]
        -- the pool behind it
        have pl' : ∀ (S1 : zS), (∀ j, S1 1728 0 j = S 1728 0 j) → S1 1043 0 0 = S 1043 0 0 → mpool (zu S1 1728 0 a (nI 0)) ((gP A).eraseIdx 0) ck := by
          intro S1 g1 g2
          refine ⟨by rw [zu_f _ _ (by decide), g2]; exact p1, fun x => if x = a then 0 else fx x, fun p hp => ?_, fun p => ?_, fun p hp => ?_, fun i j x y hij hx hy => ?_⟩
          · dsimp only
            by_cases e : p = a
            · rw [if_pos e, e, zu_self]
            · rw [if_neg e, zu_j _ _ e, g1]
              exact p2 p hp
          · dsimp only
            split
            · exact Nat.zero_le _
            · exact p3 p
          · have hmem : p ∈ (gP A).eraseIdx 0 ↔ p ∈ gP A ∧ p ≠ a := by
              cases hgl : gP A with
              | nil => rw [hgl] at ha; simp at ha
              | cons b r =>
                rw [hgl] at ha w3
                rw [List.getElem?_cons_zero] at ha
                have hb : b = a := Option.some.inj ha
                rw [List.nodup_cons] at w3
                subst hb
                rw [List.eraseIdx_cons_zero]
                constructor
                · intro h
                  exact ⟨List.mem_cons_of_mem _ h, fun z => w3.1 (z ▸ h)⟩
                · rintro ⟨h, h2⟩
                  rcases List.mem_cons.mp h with h | h
                  · exact absurd h h2
                  · exact h
            rw [hmem]
            dsimp only
            by_cases e : p = a
            · rw [if_pos e]
              exact ⟨fun h => by omega, fun h => absurd e h.2⟩
            · rw [if_neg e, p4 p hp]
              exact ⟨fun h => ⟨h, e⟩, fun h => h.1⟩
          · rw [List.getElem?_eraseIdx, if_neg (by omega)] at hx hy
            have hne : ∀ z k, (gP A)[k + 1]? = some z → z ≠ a := by
              intro z k hz hza
              have h1 := p5 0 (k + 1) a z (by omega) ha hz
              rw [hza] at h1
              omega
            dsimp only
            rw [if_neg (hne x i hx), if_neg (hne y j hy)]
            exact p5 (i + 1) (j + 1) x y (by omega) hx hy
        have fin : ∀ (S1 : zS) (B : aSt), zfr S S1 pmm → (∀ j, S1 1728 0 j = S 1728 0 j) → S1 1043 0 0 = S 1043 0 0 → lkM S1 ck B → gP B = gP A → ∃ S', zu S1 1728 0 a (nI 0) = S' ∧ zfr S S' pmm ∧ lkM S' ck (stP B ((gP A).eraseIdx 0)) := by
          intro S1 B g0 g1 g2 g3 g4
          refine ⟨_, rfl, fun f i j h => ?_, ?_⟩
          · rw [zu_f _ _ (fun z => h (by show _ ∨ _; omega))]
            exact g0 f i j h
          · obtain ⟨lg, n, fo, im, dm, bk, pl, r, w, e, q⟩ := B
            obtain ⟨l1, l2, l3, l4, l5, l6, l7, l8⟩ := g3
            have hk : ∀ f i j, f ≠ 1728 → zu S1 1728 0 a (nI 0) f i j = S1 f i j := fun f i j h => zu_f _ _ h
            exact ⟨mlog_congr (fun f i j hf => hk f i j (by omega)) (by rw [hk _ _ _ (by decide)]; exact l1.2.1) l1, by rw [hk _ _ _ (by decide)]; exact l2, fun p hp => mpg_congr (fun f hf => hk f 0 p (by omega)) (l3 p hp), pl' S1 g1 g2, by rw [hk _ _ _ (by decide)]; exact l5, by rw [hk _ _ _ (by decide)]; exact l6, by rw [hk _ _ _ (by decide)]; exact l7, by rw [hk _ _ _ (by decide)]; exact l8⟩
        rw [oI_some]
        have hlat := lat_le (gL A) a (gN A)
        have hnA := hw.n
        have him : gIm A a ≤ gN A := by
          obtain ⟨lg, n, fo, im, dm, bk, pl, r, w, e, q⟩ := A
          exact hw.2.2.2.2.2.2.1 a
        refine zwp_mono (r78 hml hw.log (by omega)) (fun o t h => ?_)
        obtain ⟨rfl, rfl⟩ := h
        have hnew : aNewer A a = decide (gIm A a < lat (gL A) a (gN A)) := by
          obtain ⟨lg, n, fo, im, dm, bk, pl, r, w, e, q⟩ := A
          rfl
        refine w85_81 ⟨a, rfl, by omega, fun hle => ?_, fun hle => ?_⟩
        · rw [(hpg a (by omega)).1, nI_le_iff (by omega) (by omega)] at hle
          obtain ⟨S', e1, e2, e3⟩ := fin S A (fun _ _ _ _ => rfl) (fun _ => rfl) rfl hl rfl
          have ew : aWin A (some a) = A := by
            unfold aWin
            dsimp only
            rw [hnew, decide_eq_false (by omega)]
            rfl
          rw [ew]
          exact w85_95 ⟨a, rfl, by omega, S', rfl, by rw [e1], e2, e3⟩
        · rw [(hpg a (by omega)).1, nI_le_iff (by omega) (by omega)] at hle
          refine zwp_mono (r84 hl hw hwh (by omega)) (fun o t h => ?_)
          obtain ⟨S1, rfl, rfl, g0, g1, g2, g3⟩ := h
          obtain ⟨S', e1, e2, e3⟩ := fin S1 (aWrite A a) g0 g1 g2 g3 rfl
          have ew : aWin A (some a) = aWrite A a := by
            unfold aWin
            dsimp only
            rw [hnew, decide_eq_true (by omega)]
            rfl
          rw [ew]
          exact w85_95 ⟨a, rfl, by omega, S', rfl, by rw [e1], e2, e3⟩
      · rw [nI_le_iff (by decide) (by omega)] at h6
        have elv : lv6 (gP A) = none := by
          unfold lv6
          rw [if_pos (by omega)]
        have edr : dr6 (gP A) = gP A := by
          unfold dr6
          rw [if_pos (by omega)]
        rw [elv, edr]
        have est : stP (aWin A none) (gP A) = A := by
          obtain ⟨lg, n, fo, im, dm, bk, pl, r, w, e, q⟩ := A
          rfl
        rw [est]
        exact ⟨S, rfl, rfl, fun _ _ _ _ => rfl, hl⟩
    | succ m ih =>
      intro i o hi hn hs
      have hnc := ncm_le (gP A) i
      have hi48 : i < 48 := by omega
      refine w85_6 ⟨fun h => ?_, fun _ => ⟨i, rfl, hi48, fun h0 => ?_, fun h0 => ?_⟩⟩
      · rw [nI_le_iff (by decide) (by omega)] at h
        omega
      · have hni := (pos i hi48).mp h0
        refine w85_27 ⟨i, rfl, hi48, fun _ => ?_, fun h => absurd h0 h⟩
        rw [nI_add, nI_add]
        have := ih (i + 1) o (by omega) (fun p ho hp => ?_) (fun x hx => ?_)
        · rw [ncm, if_neg hni] at this
          exact this
        · by_cases e : p = i
          · rw [e]
            exact hni
          · exact hn p ho (by omega)
        · obtain ⟨x1, x2, x3⟩ := hs x hx
          refine ⟨by omega, x2, fun p hp hpm => ?_⟩
          by_cases e : p = i
          · rw [e] at hpm
            exact absurd hpm hni
          · exact x3 p (by omega) hpm
      · have hni : i ∈ gP A := by
          by_cases z : i ∈ gP A
          · exact z
          · exact absurd ((pos i hi48).mpr z) h0
        have hnm : ncm (gP A) (i + 1) = ncm (gP A) i + 1 := by rw [ncm, if_pos hni]
        refine w85_27 ⟨i, rfl, hi48, fun h => absurd h h0, fun _ => ⟨fun ho => ?_, fun ho => ?_⟩⟩
        · rw [nI_add, nI_add, ← hnm]
          refine ih (i + 1) (some i) (by omega) (fun p z => by cases z) (fun x hx => ?_)
          cases hx
          refine ⟨by omega, hni, fun p hp hpm => ?_⟩
          by_cases e : p = i
          · rw [e]
            exact Nat.le_refl _
          · cases o with
            | none => exact absurd hpm (hn p rfl (by omega))
            | some x =>
              have := (hs x rfl).1
              exact absurd ho (nI_pos (by omega))
        · cases o with
          | none => exact absurd (by decide) ho
          | some x =>
            obtain ⟨x1, x2, x3⟩ := hs x rfl
            have hf1 := p3 x
            have hf2 := p3 i
            refine ⟨i, rfl, hi48, x, rfl, by omega, fun hle => ?_, fun hle => ?_⟩
            · rw [p2 x (by omega), p2 i hi48, nI_le_iff (by omega) (by omega)] at hle
              rw [nI_add, nI_add, ← hnm]
              refine ih (i + 1) (some x) (by omega) (fun p z => by cases z) (fun y hy => ?_)
              cases hy
              refine ⟨by omega, x2, fun p hp hpm => ?_⟩
              by_cases e : p = i
              · rw [e]
                exact hle
              · exact x3 p (by omega) hpm
            · rw [p2 x (by omega), p2 i hi48, nI_le_iff (by omega) (by omega)] at hle
              rw [nI_add, nI_add, ← hnm]
              refine ih (i + 1) (some i) (by omega) (fun p z => by cases z) (fun y hy => ?_)
              cases hy
              refine ⟨by omega, hni, fun p hp hpm => ?_⟩
              by_cases e : p = i
              · rw [e]
                exact Nat.le_refl _
              · have := x3 p (by omega) hpm
                omega
  exact w85_0 (key 48 0 none (by omega) (fun p _ h => by omega) (fun x h => by cases h))
end RQ
