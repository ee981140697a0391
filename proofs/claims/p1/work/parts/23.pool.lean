/-! The class's childFor, middleKey, headAt, tailAt; its pool. -/
-- the child under which a key is: the first separator above it
def lsep (k : Int32) : List Int32 → Nat
  | [] => 0
  | t :: r => if k < t then 0 else lsep k r + 1
def cChild (k : Nat) (c : aCon) : Nat := c.2.1.getD (lsep (nI k) c.2.2) 0
theorem lsep_le (k : Int32) : ∀ l : List Int32, lsep k l ≤ l.length
  | [] => Nat.le_refl _
  | t :: r => by
    unfold lsep
    split
    · exact Nat.zero_le _
    · have := lsep_le k r
      simp only [List.length_cons]
      omega
theorem lsep_at {k : Int32} : ∀ {l : List Int32} {i : Nat}, i ≤ l.length → (∀ j x, j < i → l[j]? = some x → ¬ k < x) → (∀ x, l[i]? = some x → k < x) → lsep k l = i
  | [], i, hi, _, _ => by
    have : i = 0 := by simpa using hi
    rw [this]
    rfl
  | a :: r, 0, _, _, h2 => by
    unfold lsep
    rw [if_pos (h2 a rfl)]
  | a :: r, i + 1, hi, h1, h2 => by
    unfold lsep
    rw [if_neg (h1 0 a (Nat.succ_pos _) rfl), lsep_at (by simpa using hi) (fun j x hj hx => h1 (j + 1) x (by omega) (by rw [List.getElem?_cons_succ]; exact hx)) (fun x hx => h2 x (by rw [List.getElem?_cons_succ]; exact hx))]
theorem cChild_get {k : Nat} {c : aCon} (hw : wcon c) (hb : c.1 = true) : c.2.1[lsep (nI k) c.2.2]? = some (cChild k c) := by
  have h1 := lsep_le (nI k) c.2.2
  have h2 : c.2.2.length = c.2.1.length - 1 := by have := hw.2.2.1; rw [hb] at this; simpa using this
  have h3 := hw.2.2.2 hb
  obtain ⟨x, hx⟩ := lget (l := c.2.1) (i := lsep (nI k) c.2.2) (by omega)
  unfold cChild
  rw [List.getD_eq_getElem?_getD, hx]
  rfl
-- Contents.childFor
theorem c69 {S : zS} {d p k : Nat} {c : aCon} (hl : lcon S p c) (hw : wcon c) (hb : c.1 = true) : zwp 69 (0, zent 69 [.inr (some (12, p)), .inl (nI k)], [], (S, d)) (fun o t => o = .inl (some (.inl (nI (cChild k c)))) ∧ t = (S, d)) := by
  have hn := hw.1
  have h2 : c.2.2.length = c.2.1.length - 1 := by have := hw.2.2.1; rw [hb] at this; simpa using this
  have h3 := hw.2.2.2 hb
  have hsz : S 769 p 0 - nI 1 = nI (c.2.1.length - 1) := by rw [hl.2.1, nI_dec (by omega)]
  have fin : ∀ i, lsep (nI k) c.2.2 = i → S 832 p i = nI (cChild k c) := by
    intro i hi
    have := cChild_get (k := k) hw hb
    rw [hi] at this
    exact hl.2.2.1 _ _ this
  have key : ∀ n i : Nat, i + n = c.2.2.length → (∀ j x, j < i → c.2.2[j]? = some x → ¬ nI k < x) → zwp 69 (2, [some (.inr (some (12, p))), some (.inl (nI k)), some (.inl (nI i))], [], (S, d)) (fun o t => o = .inl (some (.inl (nI (cChild k c)))) ∧ t = (S, d)) := by
    intro n
    induction n with
    | zero =>
      intro i hi hj
      refine w69_2 ⟨fun _ => ⟨i, rfl, by omega, ?_, rfl⟩, fun hlt => ?_⟩
      · rw [fin i (lsep_at (by omega) hj (fun x hx => by have := (List.getElem?_eq_some_iff.mp hx).1; omega))]
      · rw [hsz, nI_le_iff (by omega) (by omega)] at hlt
        omega
    | succ n ih =>
      intro i hi hj
      obtain ⟨x, hx⟩ := lget (l := c.2.2) (i := i) (by omega)
      refine w69_2 ⟨fun hge => ?_, fun _ => ⟨i, rfl, by omega, fun hlt => ⟨i, rfl, by omega, ?_, rfl⟩, fun hnlt => ?_⟩⟩
      · rw [hsz, nI_le_iff (by omega) (by omega)] at hge
        omega
      · rw [hl.2.2.2 i x hx] at hlt
        rw [fin i (lsep_at (by omega) hj (fun y hy => by rw [hx] at hy; cases hy; exact hlt))]
      · rw [hl.2.2.2 i x hx] at hnlt
        rw [nI_add]
        refine ih (i + 1) (by omega) (fun j y hj2 hy => ?_)
        by_cases e : j = i
        · subst e
          rw [hx] at hy
          cases hy
          exact hnlt
        · exact hj j y (by omega) hy
  exact w69_0 (key c.2.2.length 0 (by omega) (fun j x hj => by omega))
-- the key at which a full page is cut in two
def cMid (c : aCon) : Int32 := if c.1 = true then c.2.2.getD 1 0 else nI (c.2.1.getD 2 0)
theorem c70 {S : zS} {d p : Nat} {c : aCon} (hl : lcon S p c) (hw : wcon c) (h4 : c.2.1.length = 4) : zwp 70 (0, zent 70 [.inr (some (12, p))], [], (S, d)) (fun o t => o = .inl (some (.inl (cMid c))) ∧ t = (S, d)) := by
  refine w70_0 ⟨fun e => ⟨2, rfl, by decide, ?_, rfl⟩, fun e => ⟨1, rfl, by decide, ?_, rfl⟩⟩
  · rw [hl.1, b2i_0] at e
    obtain ⟨x, hx⟩ := lget (l := c.2.1) (i := 2) (by omega)
    rw [hl.2.2.1 2 x hx]
    unfold cMid
    rw [if_neg (by rw [e]; decide), List.getD_eq_getElem?_getD, hx]
    rfl
  · rw [hl.1, b2i_0] at e
    have e' : c.1 = true := by cases h : c.1 with
      | true => rfl
      | false => exact absurd h e
    have h2 : c.2.2.length = c.2.1.length - 1 := by have := hw.2.2.1; rw [e'] at this; simpa using this
    obtain ⟨x, hx⟩ := lget (l := c.2.2) (i := 1) (by omega)
    rw [hl.2.2.2 1 x hx]
    unfold cMid
    rw [if_pos e', List.getD_eq_getElem?_getD, hx]
    rfl
-- the pool
def lpool (S : zS) (l : List Nat) : Prop := S 257 0 0 = nI l.length ∧ ∀ i p, l[i]? = some p → S 320 0 i = nI p
def wpool (l : List Nat) : Prop := l.length ≤ 6 ∧ (∀ p ∈ l, p < 64) ∧ l.Nodup
abbrev ppool : Nat → Nat → Prop := fun f i => (f = 257 ∨ f = 320) ∧ i = 0
theorem c49 {S : zS} {d k : Nat} {l : List Nat} (hl : lpool S l) (hw : wpool l) (hk : k < 64) : zwp 49 (0, zent 49 [.inr (some (4, 0)), .inl (nI k)], [], (S, d)) (fun o t => o = .inl (some (.inl (zix k l))) ∧ t = (S, d)) := by
  have hn := hw.1
  have key : ∀ n i : Nat, i + n = l.length → (∀ j, j < i → l[j]? ≠ some k) → zwp 49 (2, [some (.inr (some (4, 0))), some (.inl (nI k)), some (.inl (nI i))], [], (S, d)) (fun o t => o = .inl (some (.inl (zix k l))) ∧ t = (S, d)) := by
    intro n
    induction n with
    | zero =>
      intro i hi hj
      refine w49_2 ⟨fun _ => ?_, fun hlt => ?_⟩
      · refine ⟨?_, rfl⟩
        unfold zix
        rw [if_neg (lidx_none (fun j hjl => hj j (by omega)))]
      · rw [hl.1, nI_le_iff (by omega) (by omega)] at hlt
        omega
    | succ n ih =>
      intro i hi hj
      obtain ⟨x, hx⟩ := lget (l := l) (i := i) (by omega)
      have hx64 := hw.2.1 x (List.mem_of_getElem? hx)
      refine w49_2 ⟨fun hge => ?_, fun _ => ⟨i, rfl, by omega, fun he => ?_, fun hne => ?_⟩⟩
      · rw [hl.1, nI_le_iff (by omega) (by omega)] at hge
        omega
      · rw [hl.2 i x hx, nI_eq_iff (by omega) (by omega)] at he
        subst he
        refine ⟨?_, rfl⟩
        unfold zix
        rw [if_pos (List.mem_of_getElem? hx), lidx_at hx hj]
      · rw [hl.2 i x hx, nI_eq_iff (by omega) (by omega)] at hne
        rw [nI_add]
        refine ih (i + 1) (by omega) (fun j hji => ?_)
        by_cases e : j = i
        · subst e
          rw [hx]
          exact fun z => hne (Option.some.inj z)
        · exact hj j (by omega)
  exact w49_0 (key l.length 0 (by omega) (fun j hj => by omega))
theorem zix_m1 {k : Nat} {l : List Nat} (hl : l.length < 2 ^ 31) : zix k l = zint (-1) ↔ k ∉ l := by
  by_cases h : k ∈ l
  · rw [zix_in h]
    exact ⟨fun e => absurd e (nI_ne_m1 (by have := (lidx_mem h).1; omega)), fun e => absurd h e⟩
  · rw [zix_out h]
    exact ⟨fun _ => h, fun _ => rfl⟩
-- Pool.has
theorem c48 {S : zS} {d k : Nat} {l : List Nat} (hl : lpool S l) (hw : wpool l) (hk : k < 64) : zwp 48 (0, zent 48 [.inr (some (4, 0)), .inl (nI k)], [], (S, d)) (fun o t => o = .inl (some (.inl (b2i (decide (k ∈ l))))) ∧ t = (S, d)) := by
  have hn := hw.1
  refine w48_0 (zwp_mono (c49 hl hw hk) (fun o t h => ?_))
  obtain ⟨rfl, rfl⟩ := h
  refine w48_5 ⟨fun e => ⟨?_, rfl⟩, fun e => ⟨?_, rfl⟩⟩
  · rw [zix_m1 (by omega)] at e
    rw [decide_eq_false e]
    rfl
  · rw [zix_m1 (by omega), Decidable.not_not] at e
    rw [decide_eq_true e]
    rfl
-- Pool.leavingFor
def aLeave (k : Nat) (l : List Nat) : Option Nat := if l.length < 6 ∨ k ∈ l then none else l[0]?
def oI (o : Option Nat) : Int32 := match o with
  | none => zint (-1)
  | some p => nI p
theorem c50 {S : zS} {d k : Nat} {l : List Nat} (hl : lpool S l) (hw : wpool l) (hk : k < 64) : zwp 50 (0, zent 50 [.inr (some (4, 0)), .inl (nI k)], [], (S, d)) (fun o t => o = .inl (some (.inl (oI (aLeave k l)))) ∧ t = (S, d)) := by
  have hn := hw.1
  refine w50_0 ⟨fun h6 => ⟨?_, rfl⟩, fun h6 => zwp_mono (c49 hl hw hk) (fun o t h => ?_)⟩
  · rw [hl.1, nI_lt_iff (by omega) (by omega)] at h6
    unfold aLeave
    rw [if_pos (Or.inl h6)]
    rfl
  · rw [hl.1, nI_lt_iff (by omega) (by omega)] at h6
    obtain ⟨rfl, rfl⟩ := h
    refine w50_14 ⟨fun e => ⟨0, rfl, by decide, ?_, rfl⟩, fun e => ⟨?_, rfl⟩⟩
    · rw [zix_m1 (by omega)] at e
      obtain ⟨x, hx⟩ := lget (l := l) (i := 0) (by omega)
      unfold aLeave
      rw [if_neg (fun z => z.elim h6 e), hl.2 0 x hx, hx]
      rfl
    · rw [zix_m1 (by omega), Decidable.not_not] at e
      unfold aLeave
      rw [if_pos (Or.inr e)]
      rfl
-- Pool.dropAt
theorem c52 {S : zS} {d a : Nat} {l : List Nat} (hl : lpool S l) (hn : l.length ≤ 6) (ha : a < l.length) : zwp 52 (0, zent 52 [.inr (some (4, 0)), .inl (nI a)], [], (S, d)) (fun o t => ∃ S', o = .inl none ∧ t = (S', d) ∧ zfr S S' ppool ∧ lpool S' (l.eraseIdx a)) := by
  have key : ∀ (n i : Nat) (S1 : zS), a ≤ i → i + n = l.length - 1 → S1 257 0 0 = nI (l.length - 1) → zfr S S1 ppool → (∀ j, S1 320 0 j = if a ≤ j ∧ j < i then S 320 0 (j + 1) else S 320 0 j) →
      zwp 52 (12, [some (.inr (some (4, 0))), some (.inl (nI a)), some (.inl (nI i))], [], (S1, d)) (fun o t => ∃ S', o = .inl none ∧ t = (S', d) ∧ zfr S S' ppool ∧ lpool S' (l.eraseIdx a)) := by
    intro n
    induction n with
    | zero =>
      intro i S1 hi1 hi2 h1 h3 h4
      refine w52_12 ⟨fun _ => ⟨S1, rfl, rfl, h3, ?_, fun j p hj => ?_⟩, fun hlt => ?_⟩
      · rw [h1, List.length_eraseIdx, if_pos ha]
      · have hjl := (List.getElem?_eq_some_iff.mp hj).1
        rw [List.length_eraseIdx, if_pos ha] at hjl
        rw [List.getElem?_eraseIdx] at hj
        rw [h4 j]
        by_cases e : j < a
        · rw [if_pos e] at hj
          rw [if_neg (by omega)]
          exact hl.2 j p hj
        · rw [if_neg e] at hj
          rw [if_pos (by omega)]
          exact hl.2 _ p hj
      · rw [h1, nI_le_iff (by omega) (by omega)] at hlt
        omega
    | succ n ih =>
      intro i S1 hi1 hi2 h1 h3 h4
      refine w52_12 ⟨fun hge => ?_, fun _ => ⟨i + 1, nI_add i 1, by omega, i, rfl, by omega, ?_⟩⟩
      · rw [h1, nI_le_iff (by omega) (by omega)] at hge
        omega
      · rw [nI_add]
        refine ih (i + 1) _ (by omega) (by omega) ?_ ?_ (fun j => ?_)
        · rw [zu_f _ _ (by decide)]
          exact h1
        · exact h3.tr (zfr.up (P := ppool) ⟨by simp, rfl⟩) (fun f q z => z.elim id id)
        · by_cases e : j = i
          · subst e
            rw [zu_self, if_pos (by omega), h4, if_neg (by omega)]
          · rw [zu_j _ _ e, h4 j]
            by_cases e2 : a ≤ j ∧ j < i
            · rw [if_pos e2, if_pos (by omega)]
            · rw [if_neg e2, if_neg (by omega)]
  refine w52_0 (key (l.length - 1 - a) a _ (Nat.le_refl _) (by omega) ?_ (zfr.up ⟨by simp, rfl⟩) (fun j => ?_))
  · rw [zu_self, hl.1, nI_dec (by omega)]
  · rw [zu_f _ _ (by decide), if_neg (by omega)]
-- Pool.touch
def aOut (k : Nat) (l : List Nat) : List Nat := if k ∈ l then l.eraseIdx (lidx k l) else if l.length = 6 then l.eraseIdx 0 else l
def aTouch (k : Nat) (l : List Nat) : List Nat := aOut k l ++ [k]
theorem c51 {S : zS} {d k : Nat} {l : List Nat} (hl : lpool S l) (hw : wpool l) (hk : k < 64) : zwp 51 (0, zent 51 [.inr (some (4, 0)), .inl (nI k)], [], (S, d)) (fun o t => ∃ S', o = .inl none ∧ t = (S', d) ∧ zfr S S' ppool ∧ lpool S' (aTouch k l)) := by
  have hn := hw.1
  have fin : ∀ (S1 : zS) (y : Int32), lpool S1 (aOut k l) → (aOut k l).length < 6 → zfr S S1 ppool → zwp 51 (33, [some (.inr (some (4, 0))), some (.inl (nI k)), some (.inl y)], [], (S1, d)) (fun o t => ∃ S', o = .inl none ∧ t = (S', d) ∧ zfr S S' ppool ∧ lpool S' (aTouch k l)) := by
    intro S1 y h1 h6 h3
    refine w51_33 ⟨_, h1.1, h6, _, rfl, rfl, (h3.tr (zfr.up (P := ppool) ⟨by simp, rfl⟩) (P := ppool) (fun f q z => z.elim id id)).tr (zfr.up (P := ppool) ⟨by simp, rfl⟩) (fun f q z => z.elim id id), ?_, fun i p hi => ?_⟩
    · rw [zu_self, h1.1, nI_add]
      unfold aTouch
      rw [List.length_append]
      rfl
    · rw [zu_f _ _ (by decide)]
      unfold aTouch at hi
      by_cases e : i = (aOut k l).length
      · subst e
        rw [List.getElem?_append_right (Nat.le_refl _), Nat.sub_self] at hi
        rw [zu_self]
        exact congrArg nI (Option.some.inj hi)
      · have hil : i < (aOut k l).length := by
          have := (List.getElem?_eq_some_iff.mp hi).1
          rw [List.length_append] at this
          simp only [List.length_cons, List.length_nil] at this
          omega
        rw [List.getElem?_append_left hil] at hi
        rw [zu_j _ _ e]
        exact h1.2 i p hi
  refine w51_0 (zwp_mono (c49 hl hw hk) (fun o t h => ?_))
  obtain ⟨rfl, rfl⟩ := h
  refine w51_5 ⟨fun e => ?_, fun e => ?_⟩
  · rw [zix_m1 (by omega)] at e
    refine ⟨fun h6 => ?_, fun h6 => ?_⟩
    · rw [hl.1, nI_eq_iff (by omega) (by omega)] at h6
      have ho : aOut k l = l.eraseIdx 0 := by unfold aOut; rw [if_neg e, if_pos h6]
      refine zwp_mono (c52 hl hn (a := 0) (by omega)) (fun o t h => ?_)
      obtain ⟨S1, rfl, rfl, h3, h4⟩ := h
      refine fin S1 _ (by rw [ho]; exact h4) ?_ h3
      rw [ho, List.length_eraseIdx, if_pos (by omega)]
      omega
    · rw [hl.1, nI_eq_iff (by omega) (by omega)] at h6
      have ho : aOut k l = l := by unfold aOut; rw [if_neg e, if_neg h6]
      exact fin S _ (by rw [ho]; exact hl) (by rw [ho]; omega) (zfr.rf _ _)
  · rw [zix_m1 (by omega), Decidable.not_not] at e
    have ho : aOut k l = l.eraseIdx (lidx k l) := by unfold aOut; rw [if_pos e]
    have hat := (lidx_mem e).1
    rw [zix_in e]
    refine zwp_mono (c52 hl hn hat) (fun o t h => ?_)
    obtain ⟨S1, rfl, rfl, h3, h4⟩ := h
    refine w51_16 (fin S1 _ (by rw [ho]; exact h4) ?_ h3)
    rw [ho, List.length_eraseIdx, if_pos hat]
    omega
theorem c53 {S : zS} {d : Nat} : zwp 53 (0, zent 53 [.inr (some (4, 0))], [], (S, d)) (fun o t => ∃ S', o = .inl none ∧ t = (S', d) ∧ zfr S S' ppool ∧ lpool S' []) :=
  w53_0 ⟨_, rfl, rfl, zfr.up ⟨by simp, rfl⟩, by rw [zu_self]; rfl, fun i p hi => by simp at hi⟩
