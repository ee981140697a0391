/-! Transactions, by the log. -/
-- whether a key has an entry; the changes of a transaction on a key that stand, the latest first
def pres (lg : Nat → aRec) (k : Nat) : Nat → Bool
  | 0 => false
  | n + 1 => if (rK (lg (n + 1)) = 1 ∨ rK (lg (n + 1)) = 2) ∧ rY (lg (n + 1)) = k then decide (rK (lg (n + 1)) = 1) else pres lg k n
def stk (lg : Nat → aRec) (s k : Nat) : Nat → List Nat
  | 0 => []
  | n + 1 => if (rK (lg (n + 1)) = 1 ∨ rK (lg (n + 1)) = 2) ∧ rW (lg (n + 1)) = s ∧ rY (lg (n + 1)) = k then (if rU (lg (n + 1)) = 0 then (n + 1) :: stk lg s k n else (stk lg s k n).tail) else stk lg s k n
section TRC
variable {lg lg' : Nat → aRec}
theorem pres_congr {k : Nat} : ∀ {n : Nat}, (∀ m, 1 ≤ m → m ≤ n → lg' m = lg m) → pres lg' k n = pres lg k n
  | 0, _ => rfl
  | n + 1, h => by rw [pres, pres, h (n + 1) (by omega) (Nat.le_refl _), pres_congr (fun m q1 q2 => h m q1 (by omega))]
theorem stk_congr {s k : Nat} : ∀ {n : Nat}, (∀ m, 1 ≤ m → m ≤ n → lg' m = lg m) → stk lg' s k n = stk lg s k n
  | 0, _ => rfl
  | n + 1, h => by rw [stk, stk, h (n + 1) (by omega) (Nat.le_refl _), stk_congr (fun m q1 q2 => h m q1 (by omega))]
theorem hasK_congr {s k : Nat} : ∀ {n : Nat}, (∀ m, 1 ≤ m → m ≤ n → lg' m = lg m) → hasK lg' s k n = hasK lg s k n
  | 0, _ => rfl
  | n + 1, h => by rw [hasK, hasK, h (n + 1) (by omega) (Nat.le_refl _), hasK_congr (fun m q1 q2 => h m q1 (by omega))]
theorem edw_congr {s : Nat} : ∀ {n : Nat}, (∀ m, 1 ≤ m → m ≤ n → lg' m = lg m) → edw lg' s n = edw lg s n
  | 0, _ => rfl
  | n + 1, h => by rw [edw, edw, h (n + 1) (by omega) (Nat.le_refl _), edw_congr (fun m q1 q2 => h m q1 (by omega))]
theorem hsw_congr {s : Nat} : ∀ {n : Nat}, (∀ m, 1 ≤ m → m ≤ n → lg' m = lg m) → hsw lg' s n = hsw lg s n
  | 0, _ => rfl
  | n + 1, h => by rw [hsw, hsw, h (n + 1) (by omega) (Nat.le_refl _), hsw_congr (fun m q1 q2 => h m q1 (by omega))]
theorem stk_le {s k m : Nat} : ∀ {n : Nat}, m ∈ stk lg s k n → 1 ≤ m ∧ m ≤ n
  | 0, h => by cases h
  | n + 1, h => by
    rw [stk] at h
    split at h
    · split at h
      · rcases List.mem_cons.mp h with h | h
        · omega
        · have := stk_le h
          omega
      · have := stk_le (List.mem_of_mem_tail h)
        omega
    · have := stk_le h
      omega
theorem stk_desc {s k : Nat} : ∀ {n : Nat}, (stk lg s k n).Pairwise (· > ·)
  | 0 => List.Pairwise.nil
  | n + 1 => by
    rw [stk]
    split
    · split
      · rw [List.pairwise_cons]
        exact ⟨fun x hx => by have := stk_le hx; omega, stk_desc⟩
      · exact List.Pairwise.sublist (List.tail_sublist _) stk_desc
    · exact stk_desc
theorem stk_is {s k m : Nat} : ∀ {n : Nat}, m ∈ stk lg s k n → (rK (lg m) = 1 ∨ rK (lg m) = 2) ∧ rW (lg m) = s ∧ rY (lg m) = k ∧ rU (lg m) = 0
  | 0, h => by cases h
  | n + 1, h => by
    rw [stk] at h
    split at h
    · rename_i hc
      split at h
      · rename_i hu
        rcases List.mem_cons.mp h with h | h
        · rw [h]
          exact ⟨hc.1, hc.2.1, hc.2.2, hu⟩
        · exact stk_is h
      · exact stk_is (List.mem_of_mem_tail h)
    · exact stk_is h
theorem stk_has {s k m : Nat} : ∀ {n : Nat}, m ∈ stk lg s k n → hasK lg s k n = true
  | 0, h => by cases h
  | n + 1, h => by
    rw [stk] at h
    rw [hasK]
    split at h
    · rename_i hc
      rw [decide_eq_true hc, Bool.or_true]
    · rw [stk_has h, Bool.true_or]
theorem hasK_mono {s k a b : Nat} (h : a ≤ b) (ha : hasK lg s k a = true) : hasK lg s k b = true := by
  induction b with
  | zero =>
    have : a = 0 := by omega
    rw [this] at ha
    exact ha
  | succ b ih =>
    by_cases e : a = b + 1
    · rw [e] at ha
      exact ha
    · rw [hasK, ih (by omega), Bool.true_or]
-- what a record must be where it comes
def trec (lg : Nat → aRec) (j : Nat) (r : aRec) : Prop :=
  (rK r = 1 ∨ rK r = 2 → rY r < 40 ∧ 1 ≤ rW r ∧ edw lg (rW r) j = false ∧ (∀ s, 1 ≤ s → s ≠ rW r → hasK lg s (rY r) j = true → edw lg s j = true) ∧ rH r = pres lg (rY r) j ∧ (rK r = 2 → rH r = true) ∧ (rU r ≠ 0 → (stk lg (rW r) (rY r) j).head? = some (rU r) ∧ decide (rK r = 1) = rH (lg (rU r)))) ∧
  (3 ≤ rK r → rK r ≤ 5 → rW r = 0 ∧ rU r = 0) ∧ (6 ≤ rK r → 1 ≤ rW r ∧ edw lg (rW r) j = false ∧ rU r = 0) ∧ (rK r < 6 → rP r ≤ pgs lg j) ∧ j + 1 ≤ rL r ∧ 1 ≤ rK r ∧ rK r < 8
def TR (lg : Nat → aRec) (n : Nat) : Prop := ∀ j, j < n → trec lg j (lg (j + 1))
theorem head_mem {l : List Nat} {m : Nat} (h : l.head? = some m) : m ∈ l := List.mem_of_mem_head? h
theorem head_tail {l : List Nat} {m : Nat} (h : l.head? = some m) : l = m :: l.tail := by
  match l, h with
  | a :: r, h =>
    have h : a = m := by simpa using h
    rw [h]
    rfl
theorem trec_congr {j : Nat} {r : aRec} (h : ∀ m, 1 ≤ m → m ≤ j → lg' m = lg m) (ht : trec lg j r) : trec lg' j r := by
  obtain ⟨t1, t2, t3, t4, t5, t6, t7⟩ := ht
  refine ⟨fun hc => ?_, t2, fun h6 => ?_, fun h6 => ?_, t5, t6, t7⟩
  · obtain ⟨q1, q2, q3, q4, q5, q6, q7⟩ := t1 hc
    refine ⟨q1, q2, by rw [edw_congr h]; exact q3, fun s s1 s2 s3 => ?_, by rw [pres_congr h]; exact q5, q6, fun hu => ?_⟩
    · rw [edw_congr h]
      rw [hasK_congr h] at s3
      exact q4 s s1 s2 s3
    · obtain ⟨z1, z2⟩ := q7 hu
      have hm := stk_le (head_mem z1)
      rw [stk_congr h, h _ hm.1 hm.2]
      exact ⟨z1, z2⟩
  · rw [edw_congr h]
    exact t3 h6
  · rw [pgs_congr h]
    exact t4 h6
theorem TR_congr {n : Nat} (h : ∀ m, 1 ≤ m → m ≤ n → lg' m = lg m) (ht : TR lg n) : TR lg' n := fun j hj => by
  rw [h (j + 1) (by omega) (by omega)]
  exact trec_congr (fun m q1 q2 => h m q1 (by omega)) (ht j hj)
theorem TR_add {n : Nat} {x : aRec} (ht : TR lg n) (hx : trec lg n x) : TR (upL lg (n + 1) x) (n + 1) := fun j hj => by
  by_cases e : j = n
  · rw [e, upL_self]
    exact trec_congr (fun m q1 q2 => up_pre q2) hx
  · rw [up_pre (by omega)]
    exact trec_congr (fun m q1 q2 => up_pre (by omega)) (ht j (by omega))
theorem TR_sub {n m : Nat} (h : TR lg n) (hm : m ≤ n) : TR lg m := fun j hj => h j (by omega)
theorem TR_u {n : Nat} (h : TR lg n) {j : Nat} (h1 : 1 ≤ j) (h2 : j ≤ n) : rU (lg j) < j ∧ (rU (lg j) ≠ 0 → (rK (lg j) = 1 ∨ rK (lg j) = 2) ∧ (stk lg (rW (lg j)) (rY (lg j)) (j - 1)).head? = some (rU (lg j)) ∧ decide (rK (lg j) = 1) = rH (lg (rU (lg j)))) := by
  have ht := h (j - 1) (by omega)
  rw [show j - 1 + 1 = j by omega] at ht
  obtain ⟨t1, t2, t3, t4, t5, t6, t7⟩ := ht
  by_cases hu : rU (lg j) = 0
  · exact ⟨by omega, fun z => absurd hu z⟩
  · have hc : rK (lg j) = 1 ∨ rK (lg j) = 2 := by
      by_cases h3 : 3 ≤ rK (lg j)
      · by_cases h5 : rK (lg j) ≤ 5
        · exact absurd (t2 h3 h5).2 hu
        · exact absurd (t3 (by omega)).2.2 hu
      · omega
    obtain ⟨z1, z2⟩ := (t1 hc).2.2.2.2.2.2 hu
    have := stk_le (head_mem z1)
    exact ⟨by omega, fun _ => ⟨hc, z1, z2⟩⟩
theorem stk_iff {s k m : Nat} : ∀ {n : Nat}, TR lg n → (m ∈ stk lg s k n ↔ 1 ≤ m ∧ m ≤ n ∧ (rK (lg m) = 1 ∨ rK (lg m) = 2) ∧ rW (lg m) = s ∧ rY (lg m) = k ∧ rU (lg m) = 0 ∧ undn lg m n = false)
  | 0, _ => ⟨fun h => (by cases h), fun h => by omega⟩
  | n + 1, ht => by
    have ih := stk_iff (s := s) (k := k) (m := m) (TR_sub ht (Nat.le_succ n))
    obtain ⟨u1, u2⟩ := TR_u ht (j := n + 1) (by omega) (Nat.le_refl _)
    rw [show n + 1 - 1 = n by omega] at u2
    have far : undn lg (n + 1) n = false := undn_far (fun j q1 q2 => (TR_u ht q1 (by omega)).1) (by omega)
    rw [stk, undn]
    by_cases hc : (rK (lg (n + 1)) = 1 ∨ rK (lg (n + 1)) = 2) ∧ rW (lg (n + 1)) = s ∧ rY (lg (n + 1)) = k
    · rw [if_pos hc]
      by_cases hu : rU (lg (n + 1)) = 0
      · rw [if_pos hu, List.mem_cons, hu]
        constructor
        · rintro (h | h)
          · rw [h, far, decide_eq_false (by omega)]
            exact ⟨by omega, Nat.le_refl _, hc.1, hc.2.1, hc.2.2, hu, rfl⟩
          · obtain ⟨z1, z2, z3, z4, z5, z6, z7⟩ := ih.mp h
            rw [z7, decide_eq_false (by omega)]
            exact ⟨z1, by omega, z3, z4, z5, z6, rfl⟩
        · rintro ⟨z1, z2, z3, z4, z5, z6, z7⟩
          by_cases e : m = n + 1
          · exact Or.inl e
          · rw [Bool.or_eq_false_iff] at z7
            exact Or.inr (ih.mpr ⟨z1, by omega, z3, z4, z5, z6, z7.2⟩)
      · rw [if_neg hu]
        obtain ⟨-, v1, -⟩ := u2 hu
        rw [hc.2.1, hc.2.2] at v1
        have hd := stk_desc (lg := lg) (s := s) (k := k) (n := n)
        have he := head_tail v1
        have hin : ∀ x, x ∈ stk lg s k n ↔ x = rU (lg (n + 1)) ∨ x ∈ (stk lg s k n).tail := fun x => by
          conv => lhs; rw [he]
          exact List.mem_cons
        rw [he, List.pairwise_cons] at hd
        constructor
        · intro h
          obtain ⟨z1, z2, z3, z4, z5, z6, z7⟩ := ih.mp ((hin m).mpr (Or.inr h))
          have := hd.1 m h
          rw [z7, decide_eq_false (by omega)]
          exact ⟨z1, by omega, z3, z4, z5, z6, rfl⟩
        · rintro ⟨z1, z2, z3, z4, z5, z6, z7⟩
          have e : m ≠ n + 1 := fun e => hu (by rw [← e]; exact z6)
          rw [Bool.or_eq_false_iff, decide_eq_false_iff_not] at z7
          rcases (hin m).mp (ih.mpr ⟨z1, by omega, z3, z4, z5, z6, z7.2⟩) with z | z
          · exact absurd z.symm z7.1
          · exact z
    · rw [if_neg hc, ih]
      constructor
      · rintro ⟨z1, z2, z3, z4, z5, z6, z7⟩
        have : rU (lg (n + 1)) ≠ m := fun e => by
          obtain ⟨v0, v1, -⟩ := u2 (by omega)
          have v2 := stk_is (head_mem v1)
          rw [e] at v2
          exact hc ⟨v0, by rw [← v2.2.1]; exact z4, by rw [← v2.2.2.1]; exact z5⟩
        rw [z7, decide_eq_false this]
        exact ⟨z1, by omega, z3, z4, z5, z6, rfl⟩
      · rintro ⟨z1, z2, z3, z4, z5, z6, z7⟩
        have e : m ≠ n + 1 := fun e => hc (by rw [← e]; exact ⟨z3, z4, z5⟩)
        rw [Bool.or_eq_false_iff] at z7
        exact ⟨z1, by omega, z3, z4, z5, z6, z7.2⟩
-- the chain of what stands
def chs (lg : Nat → aRec) : Bool → List Nat → Prop
  | _, [] => True
  | b, m :: r => decide (rK (lg m) = 1) = b ∧ chs lg (rH (lg m)) r
theorem edw_0 {s n : Nat} (h : edw lg s (n + 1) = false) : edw lg s n = false ∧ ¬ (rW (lg (n + 1)) = s ∧ 6 ≤ rK (lg (n + 1))) := by
  rw [edw, Bool.or_eq_false_iff, decide_eq_false_iff_not] at h
  exact h
theorem TR_chs {s k : Nat} (hs : 1 ≤ s) : ∀ {n : Nat}, TR lg n → edw lg s n = false → chs lg (pres lg k n) (stk lg s k n)
  | 0, _, _ => trivial
  | n + 1, ht, he => by
    obtain ⟨e1, e2⟩ := edw_0 he
    have ih := TR_chs (k := k) hs (TR_sub ht (Nat.le_succ n)) e1
    obtain ⟨t1, -⟩ := ht n (by omega)
    rw [pres, stk]
    by_cases hk : (rK (lg (n + 1)) = 1 ∨ rK (lg (n + 1)) = 2) ∧ rY (lg (n + 1)) = k
    · rw [if_pos hk]
      obtain ⟨q1, q2, q3, q4, q5, q6, q7⟩ := t1 hk.1
      by_cases hw : rW (lg (n + 1)) = s
      · rw [if_pos ⟨hk.1, hw, hk.2⟩]
        by_cases hu : rU (lg (n + 1)) = 0
        · rw [if_pos hu]
          refine ⟨rfl, ?_⟩
          rw [q5, hk.2]
          exact ih
        · rw [if_neg hu]
          obtain ⟨z1, z2⟩ := q7 hu
          rw [hw, hk.2] at z1
          rw [head_tail z1] at ih
          rw [z2]
          exact ih.2
      · rw [if_neg (fun z => hw z.2.1)]
        cases hl : stk lg s k n with
        | nil => trivial
        | cons m r =>
          have := q4 s hs (Ne.symm hw) (by rw [hk.2]; exact stk_has (m := m) (by rw [hl]; simp))
          rw [e1] at this
          cases this
    · rw [if_neg hk, if_neg (fun z => hk ⟨z.1, z.2.2⟩)]
      exact ih
-- a key has one that isn't ended
theorem TR_one {s s' k : Nat} (hs : 1 ≤ s) (hs' : 1 ≤ s') : ∀ {n : Nat}, TR lg n → hasK lg s k n = true → hasK lg s' k n = true → edw lg s n = false → edw lg s' n = false → s = s'
  | 0, _, h, _, _, _ => by cases h
  | n + 1, ht, h1, h2, h3, h4 => by
    obtain ⟨a1, a2⟩ := edw_0 h3
    obtain ⟨b1, b2⟩ := edw_0 h4
    obtain ⟨t1, -⟩ := ht n (by omega)
    rw [hasK, Bool.or_eq_true, decide_eq_true_eq] at h1 h2
    by_cases hk : (rK (lg (n + 1)) = 1 ∨ rK (lg (n + 1)) = 2) ∧ rY (lg (n + 1)) = k
    · obtain ⟨q1, q2, q3, q4, q5, q6, q7⟩ := t1 hk.1
      have go : ∀ x, 1 ≤ x → edw lg x n = false → (hasK lg x k n = true ∨ (rK (lg (n + 1)) = 1 ∨ rK (lg (n + 1)) = 2) ∧ rW (lg (n + 1)) = x ∧ rY (lg (n + 1)) = k) → x = rW (lg (n + 1)) := by
        intro x x1 x2 x3
        by_cases e : x = rW (lg (n + 1))
        · exact e
        · rcases x3 with x3 | x3
          · have := q4 x x1 e (by rw [hk.2]; exact x3)
            rw [x2] at this
            cases this
          · exact x3.2.1.symm
      rw [go s hs a1 h1, go s' hs' b1 h2]
    · have h1 : hasK lg s k n = true := h1.elim id (fun z => absurd ⟨z.1, z.2.2⟩ hk)
      have h2 : hasK lg s' k n = true := h2.elim id (fun z => absurd ⟨z.1, z.2.2⟩ hk)
      exact TR_one hs hs' (TR_sub ht (Nat.le_succ n)) h1 h2 a1 b1
-- records by kind
def cUc (lg : Nat → aRec) : Nat → Nat
  | 0 => 0
  | n + 1 => cUc lg n + (if (rK (lg (n + 1)) = 1 ∨ rK (lg (n + 1)) = 2) ∧ rU (lg (n + 1)) = 0 then 1 else 0)
def cDc (lg : Nat → aRec) : Nat → Nat
  | 0 => 0
  | n + 1 => cDc lg n + (if (rK (lg (n + 1)) = 1 ∨ rK (lg (n + 1)) = 2) ∧ rU (lg (n + 1)) ≠ 0 then 1 else 0)
def cEc (lg : Nat → aRec) : Nat → Nat
  | 0 => 0
  | n + 1 => cEc lg n + (if 6 ≤ rK (lg (n + 1)) then 1 else 0)
def cSc (lg : Nat → aRec) : Nat → Nat
  | 0 => 0
  | n + 1 => cSc lg n + (if 3 ≤ rK (lg (n + 1)) ∧ rK (lg (n + 1)) ≤ 5 then 1 else 0)
theorem c_all : ∀ {n : Nat}, TR lg n → cUc lg n + cDc lg n + cEc lg n + cSc lg n = n
  | 0, _ => rfl
  | n + 1, ht => by
    have ih := c_all (TR_sub ht (Nat.le_succ n))
    obtain ⟨-, -, -, -, -, t6, t7⟩ := ht n (by omega)
    rw [cUc, cDc, cEc, cSc]
    by_cases h1 : rK (lg (n + 1)) = 1 ∨ rK (lg (n + 1)) = 2
    · rw [if_neg (show ¬ 6 ≤ rK (lg (n + 1)) by omega), if_neg (show ¬ (3 ≤ rK (lg (n + 1)) ∧ rK (lg (n + 1)) ≤ 5) by omega)]
      by_cases hu : rU (lg (n + 1)) = 0
      · rw [if_pos ⟨h1, hu⟩, if_neg (fun z => z.2 hu)]
        omega
      · rw [if_neg (fun z => hu z.2), if_pos ⟨h1, hu⟩]
        omega
    · rw [if_neg (fun z => h1 z.1), if_neg (fun z => h1 z.1)]
      by_cases h6 : 6 ≤ rK (lg (n + 1))
      · rw [if_pos h6, if_neg (by omega)]
        omega
      · rw [if_neg h6, if_pos (by omega)]
        omega
theorem sumN_up {f g : Nat → Nat} {p n : Nat} (hp : p < n) (h1 : ∀ i, i < n → i ≠ p → g i = f i) (h2 : g p = f p + 1) : sumN g n = sumN f n + 1 := by
  have := sumN_at (f := f) (g := g) hp h1
  omega
-- undone ones were there
theorem c_ud {ss : Nat} : ∀ {n : Nat}, TR lg n → (∀ j, j < n → rW (lg (j + 1)) ≤ ss) → sumN (fun s => sumN (fun k => (stk lg s k n).length) 40) (ss + 1) + cDc lg n = cUc lg n
  | 0, _, _ => by
    have e : ∀ m, sumN (fun s => sumN (fun k => (stk lg s k 0).length) 40) m = 0 := by
      intro m
      induction m with
      | zero => rfl
      | succ m ih =>
        rw [sumN, ih]
        have : ∀ j, sumN (fun k => (stk lg m k 0).length) j = 0 := by
          intro j
          induction j with
          | zero => rfl
          | succ j ih => rw [sumN, ih]; rfl
        rw [this]
    rw [e]
    rfl
  | n + 1, ht, hw => by
    have ih := c_ud (ss := ss) (TR_sub ht (Nat.le_succ n)) (fun j hj => hw j (by omega))
    obtain ⟨t1, -⟩ := ht n (by omega)
    have hwn := hw n (by omega)
    rw [cUc, cDc]
    by_cases h1 : rK (lg (n + 1)) = 1 ∨ rK (lg (n + 1)) = 2
    · obtain ⟨q1, q2, q3, q4, q5, q6, q7⟩ := t1 h1
      have oth1 : ∀ s k, ¬ (rW (lg (n + 1)) = s ∧ rY (lg (n + 1)) = k) → stk lg s k (n + 1) = stk lg s k n := fun s k h => by
        rw [stk, if_neg (fun z => h z.2)]
      by_cases hu : rU (lg (n + 1)) = 0
      · rw [if_neg (fun z => z.2 hu), if_pos ⟨h1, hu⟩]
        have e1 := sumN_up (f := fun s => sumN (fun k => (stk lg s k n).length) 40) (g := fun s => sumN (fun k => (stk lg s k (n + 1)).length) 40) (p := rW (lg (n + 1))) (n := ss + 1) (by omega) (fun i _ h0 => sumN_congr (fun k _ => by
          show (stk lg i k (n + 1)).length = (stk lg i k n).length
          rw [oth1 i k (fun z => h0 z.1.symm)])) (sumN_up (p := rY (lg (n + 1))) (by omega) (fun k _ h0 => by
          show (stk lg (rW (lg (n + 1))) k (n + 1)).length = (stk lg (rW (lg (n + 1))) k n).length
          rw [oth1 _ k (fun z => h0 z.2.symm)]) (by
          show (stk lg (rW (lg (n + 1))) (rY (lg (n + 1))) (n + 1)).length = (stk lg (rW (lg (n + 1))) (rY (lg (n + 1))) n).length + 1
          rw [stk, if_pos ⟨h1, rfl, rfl⟩, if_pos hu]
          rfl))
        omega
      · rw [if_pos ⟨h1, hu⟩, if_neg (fun z => hu z.2)]
        obtain ⟨z1, -⟩ := q7 hu
        have e1 := sumN_up (g := fun s => sumN (fun k => (stk lg s k n).length) 40) (f := fun s => sumN (fun k => (stk lg s k (n + 1)).length) 40) (p := rW (lg (n + 1))) (n := ss + 1) (by omega) (fun i _ h0 => sumN_congr (fun k _ => by
          show (stk lg i k n).length = (stk lg i k (n + 1)).length
          rw [oth1 i k (fun z => h0 z.1.symm)])) (sumN_up (p := rY (lg (n + 1))) (by omega) (fun k _ h0 => by
          show (stk lg (rW (lg (n + 1))) k n).length = (stk lg (rW (lg (n + 1))) k (n + 1)).length
          rw [oth1 _ k (fun z => h0 z.2.symm)]) (by
          show (stk lg (rW (lg (n + 1))) (rY (lg (n + 1))) n).length = (stk lg (rW (lg (n + 1))) (rY (lg (n + 1))) (n + 1)).length + 1
          rw [stk, if_pos ⟨h1, rfl, rfl⟩, if_neg hu]
          conv => lhs; rw [head_tail z1]
          rfl))
        omega
    · rw [if_neg (fun z => h1 z.1), if_neg (fun z => h1 z.1)]
      have e1 : sumN (fun s => sumN (fun k => (stk lg s k (n + 1)).length) 40) (ss + 1) = sumN (fun s => sumN (fun k => (stk lg s k n).length) 40) (ss + 1) := sumN_congr (fun i _ => sumN_congr (fun k _ => by
        show (stk lg i k (n + 1)).length = (stk lg i k n).length
        rw [stk, if_neg (fun z => h1 z.1)]))
      rw [e1]
      omega
theorem sumN_le1 {f : Nat → Nat} (h : ∀ i, f i ≤ 1) (h0 : f 0 = 0) : ∀ n, sumN f (n + 1) ≤ n
  | 0 => by
    rw [sumN, sumN, h0]
    exact Nat.le_refl _
  | n + 1 => by
    have h1 := sumN_le1 h h0 n
    have h2 := h (n + 1)
    rw [sumN]
    omega
theorem c_en {ss : Nat} : ∀ {n : Nat}, TR lg n → (∀ j, j < n → rW (lg (j + 1)) ≤ ss) → sumN (fun s => if edw lg s n = true then 1 else 0) (ss + 1) = cEc lg n ∧ edw lg 0 n = false
  | 0, _, _ => by
    have e : ∀ m, sumN (fun s => if edw lg s 0 = true then 1 else 0) m = 0 := by
      intro m
      induction m with
      | zero => rfl
      | succ m ih => rw [sumN, ih]; rfl
    exact ⟨e _, rfl⟩
  | n + 1, ht, hw => by
    obtain ⟨ih, ih0⟩ := c_en (ss := ss) (TR_sub ht (Nat.le_succ n)) (fun j hj => hw j (by omega))
    obtain ⟨-, -, t3, -⟩ := ht n (by omega)
    have hwn := hw n (by omega)
    rw [cEc]
    by_cases h6 : 6 ≤ rK (lg (n + 1))
    · obtain ⟨q1, q2, q3⟩ := t3 h6
      rw [if_pos h6]
      have e1 := sumN_up (f := fun s => if edw lg s n = true then 1 else 0) (g := fun s => if edw lg s (n + 1) = true then 1 else 0) (p := rW (lg (n + 1))) (n := ss + 1) (by omega) (fun i _ h0 => by
        show (if edw lg i (n + 1) = true then 1 else 0) = if edw lg i n = true then 1 else 0
        rw [edw, decide_eq_false (fun z => h0 z.1.symm), Bool.or_false]) (by
        show (if edw lg (rW (lg (n + 1))) (n + 1) = true then 1 else 0) = (if edw lg (rW (lg (n + 1))) n = true then 1 else 0) + 1
        rw [edw, decide_eq_true ⟨rfl, h6⟩, Bool.or_true, if_pos rfl, q2]
        rfl)
      refine ⟨by omega, ?_⟩
      rw [edw, ih0, decide_eq_false (by omega)]
      rfl
    · rw [if_neg h6]
      have e1 : sumN (fun s => if edw lg s (n + 1) = true then 1 else 0) (ss + 1) = sumN (fun s => if edw lg s n = true then 1 else 0) (ss + 1) := sumN_congr (fun i _ => by
        show (if edw lg i (n + 1) = true then 1 else 0) = if edw lg i n = true then 1 else 0
        rw [edw, decide_eq_false (fun z => h6 z.2), Bool.or_false])
      refine ⟨by omega, ?_⟩
      rw [edw, ih0, decide_eq_false (fun z => h6 z.2)]
      rfl
-- the room suffices
theorem c_room {ss n : Nat} (ht : TR lg n) (hw : ∀ j, j < n → rW (lg (j + 1)) ≤ ss) (hu : cUc lg n + ss ≤ 512) (hs : cSc lg n ≤ 114) : n ≤ 1138 := by
  have h1 := c_all ht
  have h2 := c_ud ht hw
  obtain ⟨h3, h4⟩ := c_en ht hw
  have h5 := sumN_le1 (f := fun s => if edw lg s n = true then 1 else 0) (fun i => by show (if edw lg i n = true then 1 else 0) ≤ 1; split <;> omega) (by show (if edw lg 0 n = true then 1 else 0) = 0; rw [h4]; rfl) ss
  rw [h3] at h5
  omega
end TRC
