/-! The class's contents of a page. -/
-- nothing but these codes and objects has changed
def zfr (S S' : zS) (P : Nat → Nat → Prop) : Prop := ∀ f i j, ¬ P f i → S' f i j = S f i j
theorem zfr.rf (S : zS) (P : Nat → Nat → Prop) : zfr S S P := fun _ _ _ _ => rfl
theorem zfr.tr {S S1 S2 : zS} {P P1 P2 : Nat → Nat → Prop} (h1 : zfr S S1 P1) (h2 : zfr S1 S2 P2) (hP : ∀ f i, P1 f i ∨ P2 f i → P f i) : zfr S S2 P := fun f i j h => (h2 f i j (fun z => h (hP f i (Or.inr z)))).trans (h1 f i j (fun z => h (hP f i (Or.inl z))))
theorem zfr.up {S : zS} {f i j : Nat} {v : Int32} {P : Nat → Nat → Prop} (h : P f i) : zfr S (zu S f i j v) P := fun f' i' j' hn => by
  unfold zu
  rw [if_neg]
  intro z
  rw [z.1, z.2.1] at hn
  exact hn h
theorem c74h {d p f : Nat} (hf : f ≤ 4) : ∀ (i : Nat) (S : zS), i ≤ 3 → zwp 74 (2, [some (.inr (some (13, p))), some (.inl (nI f)), some (.inl (nI i))], [], (S, d)) (fun o t => ∃ S', o = .inl none ∧ t = (S', d) ∧ zfr S S' (fun g q => g = 832 ∧ q = p) ∧ ∀ j, S' 832 p j = if f < j ∧ j ≤ i then S 832 p (j - 1) else S 832 p j) := by
  intro i
  induction i with
  | zero =>
    intro S hi
    refine w74h_2 ⟨fun _ => ⟨S, rfl, rfl, zfr.rf _ _, fun j => by rw [if_neg (by omega)]⟩, fun hn => ?_⟩
    rw [nI_le_iff (by omega) (by omega)] at hn
    omega
  | succ i ih =>
    intro S hi
    refine w74h_2 ⟨fun hle => ⟨S, rfl, rfl, zfr.rf _ _, fun j => ?_⟩, fun hn => ⟨i, nI_dec (by omega), by omega, i + 1, rfl, by omega, ?_⟩⟩
    · rw [nI_le_iff (by omega) (by omega)] at hle
      rw [if_neg (by omega)]
    · rw [nI_le_iff (by omega) (by omega)] at hn
      rw [nI_dec' (by omega), show i + 1 - 1 = i by omega]
      refine zwp_mono (ih (zu S 832 p (i + 1) (S 832 p i)) (by omega)) (fun o t h => ?_)
      obtain ⟨S', h1, h2, h3, h4⟩ := h
      refine ⟨S', h1, h2, fun g q j hg => ?_, fun j => ?_⟩
      · rw [h3 g q j hg]
        unfold zu
        rw [if_neg (fun z => hg ⟨z.1, z.2.1⟩)]
      · rw [h4 j]
        unfold zu
        by_cases e1 : f < j ∧ j ≤ i
        · rw [if_pos e1, if_neg (by omega), if_pos (by omega)]
        · rw [if_neg e1]
          by_cases e2 : j = i + 1
          · rw [if_pos ⟨rfl, rfl, e2⟩, if_pos (by omega), e2]
            rfl
          · rw [if_neg (by omega), if_neg (by omega)]
theorem s74h {S : zS} {d p f : Nat} (hf : f ≤ 4) : zwp 74 (0, zent 74 [.inr (some (13, p)), .inl (nI f)], [], (S, d)) (fun o t => ∃ S', o = .inl none ∧ t = (S', d) ∧ zfr S S' (fun g q => g = 832 ∧ q = p) ∧ ∀ j, S' 832 p j = if f < j ∧ j ≤ 3 then S 832 p (j - 1) else S 832 p j) := w74h_0 (c74h hf 3 S (by omega))
theorem c74t {d p f : Nat} (hf : f ≤ 4) : ∀ (i : Nat) (S : zS), i ≤ 3 → zwp 74 (2, [some (.inr (some (14, p))), some (.inl (nI f)), some (.inl (nI i))], [], (S, d)) (fun o t => ∃ S', o = .inl none ∧ t = (S', d) ∧ zfr S S' (fun g q => g = 896 ∧ q = p) ∧ ∀ j, S' 896 p j = if f < j ∧ j ≤ i then S 896 p (j - 1) else S 896 p j) := by
  intro i
  induction i with
  | zero =>
    intro S hi
    refine w74t_2 ⟨fun _ => ⟨S, rfl, rfl, zfr.rf _ _, fun j => by rw [if_neg (by omega)]⟩, fun hn => ?_⟩
    rw [nI_le_iff (by omega) (by omega)] at hn
    omega
  | succ i ih =>
    intro S hi
    refine w74t_2 ⟨fun hle => ⟨S, rfl, rfl, zfr.rf _ _, fun j => ?_⟩, fun hn => ⟨i, nI_dec (by omega), by omega, i + 1, rfl, by omega, ?_⟩⟩
    · rw [nI_le_iff (by omega) (by omega)] at hle
      rw [if_neg (by omega)]
    · rw [nI_le_iff (by omega) (by omega)] at hn
      rw [nI_dec' (by omega), show i + 1 - 1 = i by omega]
      refine zwp_mono (ih (zu S 896 p (i + 1) (S 896 p i)) (by omega)) (fun o t h => ?_)
      obtain ⟨S', h1, h2, h3, h4⟩ := h
      refine ⟨S', h1, h2, fun g q j hg => ?_, fun j => ?_⟩
      · rw [h3 g q j hg]
        unfold zu
        rw [if_neg (fun z => hg ⟨z.1, z.2.1⟩)]
      · rw [h4 j]
        unfold zu
        by_cases e1 : f < j ∧ j ≤ i
        · rw [if_pos e1, if_neg (by omega), if_pos (by omega)]
        · rw [if_neg e1]
          by_cases e2 : j = i + 1
          · rw [if_pos ⟨rfl, rfl, e2⟩, if_pos (by omega), e2]
            rfl
          · rw [if_neg (by omega), if_neg (by omega)]
theorem s74t {S : zS} {d p f : Nat} (hf : f ≤ 4) : zwp 74 (0, zent 74 [.inr (some (14, p)), .inl (nI f)], [], (S, d)) (fun o t => ∃ S', o = .inl none ∧ t = (S', d) ∧ zfr S S' (fun g q => g = 896 ∧ q = p) ∧ ∀ j, S' 896 p j = if f < j ∧ j ≤ 3 then S 896 p (j - 1) else S 896 p j) := w74t_0 (c74t hf 3 S (by omega))
theorem lpos_le (k : Nat) : ∀ l : List Nat, lpos k l ≤ l.length
  | [] => Nat.le_refl _
  | h :: r => by
    unfold lpos
    split
    · have := lpos_le k r
      simp only [List.length_cons]
      omega
    · exact Nat.zero_le _
theorem lpos_at {k : Nat} : ∀ {l : List Nat} {i : Nat}, i ≤ l.length → (∀ j x, j < i → l[j]? = some x → x < k) → (∀ x, l[i]? = some x → ¬ x < k) → lpos k l = i
  | [], i, hi, _, _ => by
    have : i = 0 := by simpa using hi
    rw [this]
    rfl
  | a :: r, 0, _, _, h2 => by
    unfold lpos
    rw [if_neg (h2 a rfl)]
  | a :: r, i + 1, hi, h1, h2 => by
    unfold lpos
    rw [if_pos (h1 0 a (Nat.succ_pos _) rfl), lpos_at (by simpa using hi) (fun j x hj hx => h1 (j + 1) x (by omega) (by rw [List.getElem?_cons_succ]; exact hx)) (fun x hx => h2 x (by rw [List.getElem?_cons_succ]; exact hx))]
theorem lins_get {α : Type} {i : Nat} {x : α} {l : List α} (hi : i ≤ l.length) (j : Nat) : (lins i x l)[j]? = if j < i then l[j]? else if j = i then some x else l[j - 1]? := by
  unfold lins
  have hlen : (l.take i).length = i := by rw [List.length_take]; omega
  by_cases h1 : j < i
  · rw [if_pos h1, List.getElem?_append_left (by omega), List.getElem?_take_of_lt h1]
  · rw [if_neg h1, List.getElem?_append_right (by omega), hlen]
    by_cases h2 : j = i
    · rw [if_pos h2, h2, Nat.sub_self]
      rfl
    · rw [if_neg h2]
      obtain ⟨q, rfl⟩ : ∃ q, j = i + 1 + q := ⟨j - i - 1, by omega⟩
      rw [show i + 1 + q - i = q + 1 by omega, List.getElem?_cons_succ, List.getElem?_drop, show i + 1 + q - 1 = i + q by omega]
theorem lins_len {α : Type} {i : Nat} {x : α} {l : List α} : (lins i x l).length = l.length + 1 := by
  unfold lins
  rw [List.length_append, List.length_cons, List.length_take, List.length_drop]
  omega
-- what the records do to a page
def cEnter (k : Nat) (v : Int32) (c : aCon) : aCon := if c.2.1[lpos k c.2.1]? = some k then (c.1, c.2.1, c.2.2.set (lpos k c.2.1) v) else (c.1, lins (lpos k c.2.1) k c.2.1, lins (lpos k c.2.1) v c.2.2)
def cDrop (k : Nat) (c : aCon) : aCon := (c.1, c.2.1.eraseIdx (lidx k c.2.1), c.2.2.eraseIdx (lidx k c.2.1))
def cLink (sep child behind : Nat) (c : aCon) : aCon := (c.1, lins (lidx behind c.2.1 + 1) child c.2.1, lins (lidx behind c.2.1) (nI sep) c.2.2)
def cCut (c : aCon) : aCon := (c.1, c.2.1.take 2, c.2.2.take (if c.1 = true then 1 else 2))
abbrev pcon (p : Nat) : Nat → Nat → Prop := fun f i => (f = 768 ∨ f = 769 ∨ f = 832 ∨ f = 896) ∧ i = p
-- Contents.enter
theorem c71 {S : zS} {d p k : Nat} {v : Int32} {c : aCon} (hl : lcon S p c) (hw : wcon c) (hb : c.1 = false) (hk : k < 64) (hr : c.2.1[lpos k c.2.1]? = some k ∨ c.2.1.length < 4) : zwp 71 (0, zent 71 [.inr (some (12, p)), .inl (nI k), .inl v], [], (S, d)) (fun o t => ∃ S', o = .inl none ∧ t = (S', d) ∧ zfr S S' (pcon p) ∧ lcon S' p (cEnter k v c)) := by
  have hn := hw.1
  have hlp := lpos_le k c.2.1
  have hts : c.2.2.length = c.2.1.length := by have := hw.2.2.1; rw [hb] at this; simpa using this
  have fin : zwp 71 (26, [some (.inr (some (12, p))), some (.inl (nI k)), some (.inl v), some (.inl (nI (lpos k c.2.1)))], [], (S, d)) (fun o t => ∃ S', o = .inl none ∧ t = (S', d) ∧ zfr S S' (pcon p) ∧ lcon S' p (cEnter k v c)) := by
    by_cases hin : c.2.1[lpos k c.2.1]? = some k
    · have hlt := (List.getElem?_eq_some_iff.mp hin).1
      refine w71_26 ⟨fun hge => ?_, fun _ => ⟨_, rfl, by omega, fun _ => ⟨_, rfl, by omega, ?_⟩, fun hne => ?_⟩⟩
      · rw [hl.2.1, nI_le_iff (by omega) (by omega)] at hge
        omega
      · refine ⟨_, rfl, rfl, zfr.up ⟨by simp, rfl⟩, ?_⟩
        unfold cEnter
        rw [if_pos hin]
        refine ⟨?_, ?_, fun i h hi => ?_, fun i w hi => ?_⟩
        · rw [zu_f _ _ (by decide)]
          exact hl.1
        · rw [zu_f _ _ (by decide)]
          exact hl.2.1
        · rw [zu_f _ _ (by decide)]
          exact hl.2.2.1 i h hi
        · by_cases e : i = lpos k c.2.1
          · subst e
            rw [List.getElem?_set_self (by omega)] at hi
            rw [zu_self]
            exact Option.some.inj hi
          · rw [List.getElem?_set_ne (Ne.symm e)] at hi
            rw [zu_j _ _ e]
            exact hl.2.2.2 i w hi
      · rw [hl.2.2.1 _ _ hin] at hne
        exact absurd rfl hne
    · have h4 : c.2.1.length < 4 := by
        rcases hr with h | h
        · exact absurd h hin
        · exact h
      have ins : zwp 71 (54, [some (.inr (some (12, p))), some (.inl (nI k)), some (.inl v), some (.inl (nI (lpos k c.2.1)))], [], (S, d)) (fun o t => ∃ S', o = .inl none ∧ t = (S', d) ∧ zfr S S' (pcon p) ∧ lcon S' p (cEnter k v c)) := by
        refine w71_54 ⟨fun hge => ?_, fun _ => ?_⟩
        · rw [hl.2.1, nI_le_iff (by omega) (by omega)] at hge
          omega
        · refine zwp_mono (s74h (by omega)) (fun o t h => ?_)
          obtain ⟨S1, rfl, rfl, f1, g1⟩ := h
          refine w71_70 (zwp_mono (s74t (by omega)) (fun o t h => ?_))
          obtain ⟨S2, rfl, rfl, f2, g2⟩ := h
          refine w71_78 ⟨_, rfl, by omega, _, rfl, by omega, ?_⟩
          have hS2 : ∀ f i j, ¬ (f = 832 ∧ i = p) → ¬ (f = 896 ∧ i = p) → S2 f i j = S f i j := fun f i j h1 h2 => (f2 f i j h2).trans (f1 f i j h1)
          refine ⟨_, rfl, rfl, fun f i j hnp => ?_, ?_⟩
          · have q1 : ¬ (f = 832 ∧ i = p) := fun z => hnp ⟨by simp [z.1], z.2⟩
            have q2 : ¬ (f = 896 ∧ i = p) := fun z => hnp ⟨by simp [z.1], z.2⟩
            have q3 : ¬ (f = 769 ∧ i = p ∧ j = 0) := fun z => hnp ⟨by simp [z.1], z.2.1⟩
            unfold zu
            rw [if_neg q3, if_neg (fun z => q2 ⟨z.1, z.2.1⟩), if_neg (fun z => q1 ⟨z.1, z.2.1⟩)]
            exact hS2 f i j q1 q2
          · unfold cEnter
            rw [if_neg hin]
            refine ⟨?_, ?_, fun i h hi => ?_, fun i w hi => ?_⟩
            · rw [zu_f _ _ (by decide), zu_f _ _ (by decide), zu_f _ _ (by decide), hS2 _ _ _ (by simp) (by simp)]
              exact hl.1
            · rw [zu_self, hS2 _ _ _ (by simp) (by simp), hl.2.1, nI_add, lins_len]
            · rw [zu_f _ _ (by decide), zu_f _ _ (by decide)]
              have hil : i < c.2.1.length + 1 := by have := (List.getElem?_eq_some_iff.mp hi).1; rw [lins_len] at this; exact this
              rw [lins_get hlp] at hi
              by_cases e : i = lpos k c.2.1
              · subst e
                rw [if_neg (by omega), if_pos rfl] at hi
                rw [zu_self, Option.some.inj hi]
              · rw [zu_j _ _ e, f2 _ _ _ (by simp), g1 i]
                by_cases e2 : i < lpos k c.2.1
                · rw [if_pos e2] at hi
                  rw [if_neg (by omega)]
                  exact hl.2.2.1 i h hi
                · rw [if_neg e2, if_neg e] at hi
                  rw [if_pos (by omega)]
                  exact hl.2.2.1 _ h hi
            · rw [zu_f _ _ (by decide)]
              have hil : i < c.2.2.length + 1 := by have := (List.getElem?_eq_some_iff.mp hi).1; rw [lins_len] at this; exact this
              rw [lins_get (by omega)] at hi
              by_cases e : i = lpos k c.2.1
              · subst e
                rw [if_neg (by omega), if_pos rfl] at hi
                rw [zu_self, Option.some.inj hi]
              · rw [zu_j _ _ e, zu_f _ _ (by decide), g2 i]
                by_cases e2 : i < lpos k c.2.1
                · rw [if_pos e2] at hi
                  rw [if_neg (by omega), f1 _ _ _ (by simp)]
                  exact hl.2.2.2 i w hi
                · rw [if_neg e2, if_neg e] at hi
                  rw [if_pos (by omega), f1 _ _ _ (by simp)]
                  exact hl.2.2.2 _ w hi
      refine w71_26 ⟨fun _ => ins, fun hlt => ?_⟩
      rw [hl.2.1, nI_le_iff (by omega) (by omega)] at hlt
      obtain ⟨x, hx⟩ := lget (l := c.2.1) (i := lpos k c.2.1) (by omega)
      refine ⟨_, rfl, by omega, fun he => ?_, fun _ => ins⟩
      rw [hl.2.2.1 _ x hx, nI_eq_iff (by have := hw.lt hx; omega) (by omega)] at he
      rw [he] at hx
      exact absurd hx hin
  have key : ∀ n i : Nat, i + n = c.2.1.length → (∀ j x, j < i → c.2.1[j]? = some x → x < k) → zwp 71 (2, [some (.inr (some (12, p))), some (.inl (nI k)), some (.inl v), some (.inl (nI i))], [], (S, d)) (fun o t => ∃ S', o = .inl none ∧ t = (S', d) ∧ zfr S S' (pcon p) ∧ lcon S' p (cEnter k v c)) := by
    intro n
    induction n with
    | zero =>
      intro i hi hj
      have e : lpos k c.2.1 = i := lpos_at (by omega) hj (fun x hx => by have := (List.getElem?_eq_some_iff.mp hx).1; omega)
      rw [e] at fin
      refine w71_2 ⟨fun _ => fin, fun hlt => ?_⟩
      rw [hl.2.1, nI_le_iff (by omega) (by omega)] at hlt
      omega
    | succ n ih =>
      intro i hi hj
      obtain ⟨x, hx⟩ := lget (l := c.2.1) (i := i) (by omega)
      have hx64 := hw.lt hx
      refine w71_2 ⟨fun hge => ?_, fun _ => ⟨i, rfl, by omega, fun hle => ?_, fun hnle => ?_⟩⟩
      · rw [hl.2.1, nI_le_iff (by omega) (by omega)] at hge
        omega
      · rw [hl.2.2.1 i x hx, nI_le_iff (by omega) (by omega)] at hle
        have e : lpos k c.2.1 = i := lpos_at (by omega) hj (fun y hy => by rw [hx] at hy; cases hy; omega)
        rw [e] at fin
        exact fin
      · rw [hl.2.2.1 i x hx, nI_le_iff (by omega) (by omega)] at hnle
        rw [nI_add]
        refine ih (i + 1) (by omega) (fun j y hj2 hy => ?_)
        by_cases e : j = i
        · subst e
          rw [hx] at hy
          cases hy
          omega
        · exact hj j y (by omega) hy
  exact w71_0 (key c.2.1.length 0 (by omega) (fun j x hj => by omega))
