/-! The model: what both programs keep. Contents of a page: branch or leaf, heads (keys or children), tails (values or separators). -/
abbrev aCon : Type := Bool × List Nat × List Int32
-- the first place whose head is not below k
def lpos (k : Nat) : List Nat → Nat
  | [] => 0
  | h :: r => if h < k then lpos k r + 1 else 0
-- the first place of k, the length if it isn't there
def lidx (k : Nat) : List Nat → Nat
  | [] => 0
  | h :: r => if h = k then 0 else lidx k r + 1
def lins {α : Type} (i : Nat) (x : α) (l : List α) : List α := l.take i ++ x :: l.drop i
def b2i (b : Bool) : Int32 := if b = true then nI 1 else nI 0
theorem b2i_01 (b : Bool) : b2i b = 0 ∨ b2i b = 1 := by cases b <;> decide
theorem b2i_0 {b : Bool} : b2i b = 0 ↔ b = false := by cases b <;> decide
theorem lidx_le (k : Nat) : ∀ l : List Nat, lidx k l ≤ l.length
  | [] => Nat.le_refl _
  | h :: r => by
    unfold lidx
    split
    · exact Nat.zero_le _
    · have := lidx_le k r
      simp only [List.length_cons]
      omega
theorem lidx_mem {k : Nat} : ∀ {l : List Nat}, k ∈ l → lidx k l < l.length ∧ l[lidx k l]? = some k
  | [], h => by cases h
  | a :: r, h => by
    unfold lidx
    by_cases e : a = k
    · rw [if_pos e]
      exact ⟨by simp, by rw [e]; rfl⟩
    · rw [if_neg e]
      have hr : k ∈ r := by
        rcases List.mem_cons.mp h with h | h
        · exact absurd h.symm e
        · exact h
      have := lidx_mem hr
      exact ⟨by simp only [List.length_cons]; omega, by rw [List.getElem?_cons_succ]; exact this.2⟩
theorem lidx_at {k : Nat} : ∀ {l : List Nat} {i : Nat}, l[i]? = some k → (∀ j, j < i → l[j]? ≠ some k) → lidx k l = i
  | [], i, h, _ => by simp at h
  | a :: r, 0, h, _ => by
    rw [List.getElem?_cons_zero] at h
    unfold lidx
    rw [if_pos (Option.some.inj h)]
  | a :: r, i + 1, h, hj => by
    rw [List.getElem?_cons_succ] at h
    unfold lidx
    rw [if_neg (fun e => hj 0 (Nat.succ_pos _) (by rw [e]; rfl)), lidx_at h (fun j hji => by have := hj (j + 1) (by omega); rwa [List.getElem?_cons_succ] at this)]
theorem lidx_none {k : Nat} {l : List Nat} (h : ∀ j, j < l.length → l[j]? ≠ some k) : k ∉ l := by
  intro hm
  exact h _ (lidx_mem hm).1 (lidx_mem hm).2
-- Int32 facts for small numbers
theorem nI_le_iff {a b : Nat} (ha : a < 2 ^ 31) (hb : b < 2 ^ 31) : (nI a ≤ nI b) = (a ≤ b) := propext (nI_leI ha hb)
theorem nI_lt_iff {a b : Nat} (ha : a < 2 ^ 31) (hb : b < 2 ^ 31) : (nI a < nI b) = (a < b) := propext (nI_ltI ha hb)
theorem nI_eq_iff {a b : Nat} (ha : a < 2 ^ 31) (hb : b < 2 ^ 31) : (nI a = nI b) = (a = b) := propext (nI_eq ha hb)
theorem nI_ne_m1 {a : Nat} (ha : a < 2 ^ 31) : ¬ nI a = zint (-1) := by
  intro h
  have h1 := congrArg Int32.toInt h
  rw [nI_toInt ha] at h1
  have h2 : (zint (-1)).toInt = -1 := by decide +kernel
  omega
theorem nI_dec {a : Nat} (h : 0 < a) : nI a - nI 1 = nI (a - 1) := by
  have := nI_pred (a - 1)
  rw [show a - 1 + 1 = a by omega] at this
  exact this
theorem nI_dec' {a : Nat} (h : 0 < a) : nI a + zint (-1) = nI (a - 1) := by
  have h1 : nI a + zint (-1) = nI a - nI 1 := by
    rw [Int32.sub_eq_add_neg]
    rfl
  rw [h1, nI_dec h]
def zix (k : Nat) (l : List Nat) : Int32 := if k ∈ l then nI (lidx k l) else zint (-1)
-- the contents of a page as the class keeps them
def lcon (S : zS) (p : Nat) (c : aCon) : Prop := S 768 p 0 = b2i c.1 ∧ S 769 p 0 = nI c.2.1.length ∧ (∀ i h, c.2.1[i]? = some h → S 832 p i = nI h) ∧ ∀ i v, c.2.2[i]? = some v → S 896 p i = v
-- numbers that a page's contents may have
def wcon (c : aCon) : Prop := c.2.1.length ≤ 4 ∧ (∀ h ∈ c.2.1, h < 64) ∧ c.2.2.length = c.2.1.length - (if c.1 = true then 1 else 0) ∧ (c.1 = true → 1 ≤ c.2.1.length)
theorem wcon.lt {c : aCon} (h : wcon c) {i x : Nat} (hx : c.2.1[i]? = some x) : x < 64 := h.2.1 x (List.mem_of_getElem? hx)
theorem lget {α : Type} {l : List α} {i : Nat} (h : i < l.length) : ∃ x, l[i]? = some x := ⟨l[i], List.getElem?_eq_getElem h⟩
-- Contents.indexOf
theorem c68 {S : zS} {d p k : Nat} {c : aCon} (hl : lcon S p c) (hw : wcon c) (hk : k < 64) : zwp 68 (0, zent 68 [.inr (some (12, p)), .inl (nI k)], [], (S, d)) (fun o t => o = .inl (some (.inl (zix k c.2.1))) ∧ t = (S, d)) := by
  have hn := hw.1
  have key : ∀ n i : Nat, i + n = c.2.1.length → (∀ j, j < i → c.2.1[j]? ≠ some k) → zwp 68 (2, [some (.inr (some (12, p))), some (.inl (nI k)), some (.inl (nI i))], [], (S, d)) (fun o t => o = .inl (some (.inl (zix k c.2.1))) ∧ t = (S, d)) := by
    intro n
    induction n with
    | zero =>
      intro i hi hj
      refine w68_2 ⟨fun _ => ?_, fun hlt => ?_⟩
      · refine ⟨?_, rfl⟩
        unfold zix
        rw [if_neg (lidx_none (fun j hjl => hj j (by omega)))]
      · rw [hl.2.1, nI_le_iff (by omega) (by omega)] at hlt
        omega
    | succ n ih =>
      intro i hi hj
      obtain ⟨x, hx⟩ := lget (l := c.2.1) (i := i) (by omega)
      refine w68_2 ⟨fun hge => ?_, fun _ => ⟨i, rfl, by omega, fun he => ?_, fun hne => ?_⟩⟩
      · rw [hl.2.1, nI_le_iff (by omega) (by omega)] at hge
        omega
      · rw [hl.2.2.1 i x hx, nI_eq_iff (by have := hw.lt hx; omega) (by omega)] at he
        subst he
        refine ⟨?_, rfl⟩
        unfold zix
        rw [if_pos (List.mem_of_getElem? hx), lidx_at hx hj]
      · rw [hl.2.2.1 i x hx, nI_eq_iff (by have := hw.lt hx; omega) (by omega)] at hne
        rw [nI_add]
        refine ih (i + 1) (by omega) (fun j hji => ?_)
        by_cases e : j = i
        · subst e
          rw [hx]
          exact fun z => hne (Option.some.inj z)
        · exact hj j (by omega)
  exact w68_0 (key c.2.1.length 0 (by omega) (fun j hj => by omega))
