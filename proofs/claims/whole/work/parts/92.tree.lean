/-! The tree: its pages cut the keys between them. -/
def sumN (f : Nat → Nat) : Nat → Nat
  | 0 => 0
  | n + 1 => sumN f n + f n
theorem sumN_congr {f g : Nat → Nat} : ∀ {n : Nat}, (∀ i, i < n → g i = f i) → sumN g n = sumN f n
  | 0, _ => rfl
  | n + 1, h => by rw [sumN, sumN, sumN_congr (fun i hi => h i (by omega)), h n (by omega)]
theorem sumN_at {f g : Nat → Nat} {p : Nat} : ∀ {n : Nat}, p < n → (∀ i, i < n → i ≠ p → g i = f i) → sumN g n + f p = sumN f n + g p
  | 0, h, _ => by omega
  | n + 1, h, hg => by
    rw [sumN, sumN]
    by_cases e : p = n
    · rw [e, sumN_congr (f := f) (g := g) (fun i hi => hg i (by omega) (by omega))]
      omega
    · have := sumN_at (f := f) (g := g) (p := p) (n := n) (by omega) (fun i hi he => hg i (by omega) he)
      rw [hg n (by omega) (by omega)]
      omega
theorem sumN_ge {f : Nat → Nat} {c : Nat} : ∀ {n : Nat}, (∀ i, i < n → c ≤ f i) → c * n ≤ sumN f n
  | 0, _ => by simp [sumN]
  | n + 1, h => by
    have h1 := sumN_ge (f := f) (c := c) (n := n) (fun i hi => h i (by omega))
    have h2 := h n (by omega)
    rw [sumN, Nat.mul_succ]
    omega
-- children with their ranges
def chn (lo hi : Nat → Nat) (R : Nat → Prop) : List Nat → List Int32 → Nat → Nat → Prop
  | [], _, _, _ => False
  | c :: cs, [], a, b => cs = [] ∧ R c ∧ lo c = a ∧ hi c = b
  | c :: cs, t :: ts, a, b => ∃ s, t = nI s ∧ a < s ∧ s < b ∧ s < 40 ∧ R c ∧ lo c = a ∧ hi c = s ∧ chn lo hi R cs ts s b
section CHN
variable {lo hi lo' hi' : Nat → Nat} {R R' : Nat → Prop}
theorem chn_mono : ∀ {l : List Nat} {t : List Int32} {a b : Nat}, (∀ c ∈ l, R c → R' c ∧ lo' c = lo c ∧ hi' c = hi c) → chn lo hi R l t a b → chn lo' hi' R' l t a b
  | [], _, _, _, _, h => h.elim
  | c :: cs, [], a, b, hm, h => by
    obtain ⟨h1, h2, h3, h4⟩ := h
    obtain ⟨m1, m2, m3⟩ := hm c (by simp) h2
    exact ⟨h1, m1, m2.trans h3, m3.trans h4⟩
  | c :: cs, t :: ts, a, b, hm, h => by
    obtain ⟨s, h1, h2, h3, h4, h5, h6, h7, h8⟩ := h
    obtain ⟨m1, m2, m3⟩ := hm c (by simp) h5
    exact ⟨s, h1, h2, h3, h4, m1, m2.trans h6, m3.trans h7, chn_mono (fun c hc => hm c (List.mem_cons_of_mem _ hc)) h8⟩
theorem chn_mem {x : Nat} : ∀ {l : List Nat} {t : List Int32} {a b : Nat}, chn lo hi R l t a b → x ∈ l → R x ∧ a ≤ lo x ∧ hi x ≤ b
  | [], _, _, _, h, _ => h.elim
  | c :: cs, [], a, b, h, hx => by
    obtain ⟨h1, h2, h3, h4⟩ := h
    rw [h1] at hx
    have hx : x = c := by simpa using hx
    rw [hx]
    exact ⟨h2, by omega, by omega⟩
  | c :: cs, t :: ts, a, b, h, hx => by
    obtain ⟨s, h1, h2, h3, h4, h5, h6, h7, h8⟩ := h
    rcases List.mem_cons.mp hx with hx | hx
    · rw [hx]
      exact ⟨h5, by omega, by omega⟩
    · obtain ⟨q1, q2, q3⟩ := chn_mem h8 hx
      exact ⟨q1, by omega, q3⟩
theorem chn_len : ∀ {l : List Nat} {t : List Int32} {a b : Nat}, chn lo hi R l t a b → t.length + 1 = l.length
  | [], _, _, _, h => h.elim
  | c :: cs, [], a, b, h => by
    obtain ⟨h1, -⟩ := h
    rw [h1]
    rfl
  | c :: cs, t :: ts, a, b, h => by
    obtain ⟨s, -, -, -, -, -, -, -, h8⟩ := h
    have := chn_len h8
    simp only [List.length_cons]
    omega
theorem chn_child {k : Nat} (hk : k < 40) : ∀ {l : List Nat} {t : List Int32} {a b : Nat}, chn lo hi R l t a b → a ≤ k → k < b → ∃ x, l[lsep (nI k) t]? = some x ∧ R x ∧ lo x ≤ k ∧ k < hi x
  | [], _, _, _, h, _, _ => h.elim
  | c :: cs, [], a, b, h, h1, h2 => by
    obtain ⟨-, q2, q3, q4⟩ := h
    exact ⟨c, rfl, q2, by omega, by omega⟩
  | c :: cs, t :: ts, a, b, h, h1, h2 => by
    obtain ⟨s, q1, q2, q3, q4, q5, q6, q7, q8⟩ := h
    by_cases e : k < s
    · refine ⟨c, ?_, q5, by omega, by omega⟩
      rw [lsep, if_pos (by rw [q1, nI_lt_iff (by omega) (by omega)]; exact e)]
      rfl
    · obtain ⟨x, z1, z2⟩ := chn_child hk q8 (by omega) h2
      refine ⟨x, ?_, z2⟩
      rw [lsep, if_neg (by rw [q1, nI_lt_iff (by omega) (by omega)]; exact e), List.getElem?_cons_succ]
      exact z1
theorem chn_uni {k x y : Nat} : ∀ {l : List Nat} {t : List Int32} {a b : Nat}, chn lo hi R l t a b → x ∈ l → y ∈ l → lo x ≤ k → k < hi x → lo y ≤ k → k < hi y → x = y
  | [], _, _, _, h, _, _, _, _, _, _ => h.elim
  | c :: cs, [], a, b, h, hx, hy, _, _, _, _ => by
    rw [h.1] at hx hy
    have hx : x = c := by simpa using hx
    have hy : y = c := by simpa using hy
    rw [hx, hy]
  | c :: cs, t :: ts, a, b, h, hx, hy, h1, h2, h3, h4 => by
    obtain ⟨s, q1, q2, q3, q4, q5, q6, q7, q8⟩ := h
    rcases List.mem_cons.mp hx with hx | hx
    · rcases List.mem_cons.mp hy with hy | hy
      · rw [hx, hy]
      · obtain ⟨-, z2, -⟩ := chn_mem q8 hy
        rw [hx] at h2
        omega
    · rcases List.mem_cons.mp hy with hy | hy
      · obtain ⟨-, z2, -⟩ := chn_mem q8 hx
        rw [hy] at h4
        omega
      · exact chn_uni q8 hx hy h1 h2 h3 h4
-- a child gets a neighbour
theorem chn_ins {p m s : Nat} (hs : s < 40) (hlo : lo p < s) (hhi : s < hi p) (h1 : ∀ c, c ≠ p → R c → R' c ∧ lo' c = lo c ∧ hi' c = hi c) (h2 : R p → R' p ∧ R' m) (h3 : lo' p = lo p) (h4 : hi' p = s) (h5 : lo' m = s) (h6 : hi' m = hi p) :
    ∀ {l : List Nat} {t : List Int32} {a b : Nat}, chn lo hi R l t a b → p ∈ l → chn lo' hi' R' (lins (lidx p l + 1) m l) (lins (lidx p l) (nI s) t) a b
  | [], _, _, _, h, _ => h.elim
  | c :: cs, [], a, b, h, hp => by
    obtain ⟨q1, q2, q3, q4⟩ := h
    subst q1
    have hp : p = c := by simpa using hp
    subst hp
    rw [lidx, if_pos rfl]
    exact ⟨s, rfl, by omega, by omega, hs, (h2 q2).1, by omega, h4, rfl, (h2 q2).2, h5, by omega⟩
  | c :: cs, t :: ts, a, b, h, hp => by
    obtain ⟨x, q1, q2, q3, q4, q5, q6, q7, q8⟩ := h
    by_cases e : c = p
    · subst e
      rw [lidx, if_pos rfl]
      refine ⟨s, rfl, by omega, by omega, hs, (h2 q5).1, by omega, h4, x, q1, by omega, q3, q4, (h2 q5).2, h5, by omega, ?_⟩
      refine chn_mono (fun y hy hR => h1 y (fun z => ?_) hR) q8
      obtain ⟨-, z2, -⟩ := chn_mem q8 hy
      rw [z] at z2
      omega
    · rw [lidx, if_neg e]
      have hp : p ∈ cs := by
        rcases List.mem_cons.mp hp with z | z
        · exact absurd z.symm e
        · exact z
      obtain ⟨m1, m2, m3⟩ := h1 c e q5
      exact ⟨x, q1, q2, q3, q4, m1, by omega, by omega, chn_ins hs hlo hhi h1 h2 h3 h4 h5 h6 q8 hp⟩
end CHN
abbrev srt (l : List Nat) : Prop := l.Pairwise (· < ·)
def lfc (a b : Nat) (pr : Nat → Bool) (l : List Nat) : Prop := srt l ∧ ∀ k, k ∈ l ↔ (a ≤ k ∧ k < b ∧ pr k = true)
def kdR (M : Nat) (lv up : Nat → Nat) (p c : Nat) : Prop := c < M ∧ c ≠ 0 ∧ lv c + 1 = lv p ∧ up c = p
def pgc (C : Nat → aCon) (M : Nat) (pr : Nat → Bool) (lo hi lv up : Nat → Nat) (p : Nat) : Prop :=
  lo p + 2 ≤ hi p ∧ hi p ≤ 40 ∧ (p ≠ 0 → up p < M ∧ (C (up p)).1 = true ∧ p ∈ (C (up p)).2.1) ∧ ((C p).1 = false → lv p = 0 ∧ lfc (lo p) (hi p) pr (C p).2.1) ∧ ((C p).1 = true → 2 ≤ (C p).2.1.length ∧ chn lo hi (kdR M lv up p) (C p).2.1 (C p).2.2 (lo p) (hi p))
def vw (C : Nat → aCon) (lo hi : Nat → Nat) (p : Nat) : Nat := if (C p).1 = true then (C p).2.1.length else hi p - lo p
def tre (C : Nat → aCon) (M : Nat) (pr : Nat → Bool) (lo hi lv up : Nat → Nat) : Prop := lo 0 = 0 ∧ hi 0 = 40 ∧ (∀ p, p < M → pgc C M pr lo hi lv up p) ∧ sumN (vw C lo hi) M = 39 + M
section TRE
variable {C : Nat → aCon} {M : Nat} {pr : Nat → Bool} {lo hi lv up : Nat → Nat}
theorem cb {b : Bool} (h : ¬ b = true) : b = false := by cases b <;> simp_all
theorem tre_M (h : tre C M pr lo hi lv up) : M ≤ 39 := by
  have h1 : 2 * M ≤ sumN (vw C lo hi) M := sumN_ge (fun i hi' => by
    obtain ⟨q1, q2, q3, q4, q5⟩ := h.2.2.1 i hi'
    unfold vw
    split
    · rename_i hb
      exact (q5 hb).1
    · omega)
  rw [h.2.2.2] at h1
  omega
theorem tre_child {p k : Nat} (h : tre C M pr lo hi lv up) (hp : p < M) (hb : (C p).1 = true) (h1 : lo p ≤ k) (h2 : k < hi p) : cChild k (C p) ∈ (C p).2.1 ∧ kdR M lv up p (cChild k (C p)) ∧ lo (cChild k (C p)) ≤ k ∧ k < hi (cChild k (C p)) := by
  obtain ⟨q1, q2, q3, q4, q5⟩ := h.2.2.1 p hp
  obtain ⟨x, z1, z2⟩ := chn_child (by omega) (q5 hb).2 h1 h2
  have e : cChild k (C p) = x := by
    unfold cChild
    rw [List.getD_eq_getElem?_getD, z1]
    rfl
  rw [e]
  exact ⟨List.mem_of_getElem? z1, z2⟩
theorem tre_lv (h : tre C M pr lo hi lv up) : ∀ (l p : Nat), p < M → lv p = l → lo p + l + 2 ≤ hi p
  | 0, p, hp, _ => by
    have := (h.2.2.1 p hp).1
    omega
  | l + 1, p, hp, hl => by
    obtain ⟨q1, q2, q3, q4, q5⟩ := h.2.2.1 p hp
    have hb : (C p).1 = true := by
      cases hb : (C p).1 with
      | true => rfl
      | false =>
        have := (q4 hb).1
        omega
    obtain ⟨q6, q7⟩ := q5 hb
    have hln := chn_len q7
    generalize (C p).2.1 = hs at q6 q7 hln
    generalize (C p).2.2 = ts at q7 hln
    match hs, ts, q7 with
    | c :: cs, t :: ts, q7 =>
      obtain ⟨s, z1, z2, z3, z4, z5, z6, z7, z8⟩ := q7
      have := tre_lv h l c z5.1 (by have := z5.2.2.1; omega)
      omega
    | c :: cs, [], q7 =>
      simp only [List.length_cons, List.length_nil] at q6 hln
      omega
theorem tre_le (h : tre C M pr lo hi lv up) {p : Nat} (hp : p < M) : lv p ≤ 38 := by
  have h1 := tre_lv h (lv p) p hp rfl
  have h2 := (h.2.2.1 p hp).2.1
  omega
-- a child's parent
theorem tre_up (h : tre C M pr lo hi lv up) {p : Nat} (hp : p < M) (h0 : p ≠ 0) : up p < M ∧ (C (up p)).1 = true ∧ p ∈ (C (up p)).2.1 ∧ lv p + 1 = lv (up p) ∧ lo (up p) ≤ lo p ∧ hi p ≤ hi (up p) := by
  obtain ⟨q1, q2, q3⟩ := (h.2.2.1 p hp).2.2.1 h0
  obtain ⟨z1, z2, z3⟩ := chn_mem ((h.2.2.1 (up p) q1).2.2.2.2 q2).2 q3
  exact ⟨q1, q2, q3, z1.2.2.1, z2, z3⟩
theorem tre_top (h : tre C M pr lo hi lv up) : ∀ (d p : Nat), 39 ≤ lv p + d → p < M → lv p ≤ lv 0 ∧ (p ≠ 0 → lv p < lv 0)
  | 0, p, hd, hp => by
    have := tre_le h hp
    omega
  | d + 1, p, hd, hp => by
    by_cases e : p = 0
    · rw [e]
      exact ⟨Nat.le_refl _, fun z => absurd rfl z⟩
    · obtain ⟨u1, u2, u3, u4, u5, u6⟩ := tre_up h hp e
      have := (tre_top h d (up p) (by omega) u1).1
      exact ⟨by omega, fun _ => by omega⟩
theorem tre_uni (h : tre C M pr lo hi lv up) {k : Nat} : ∀ (d p q : Nat), 39 ≤ lv p + d → p < M → q < M → lv p = lv q → lo p ≤ k → k < hi p → lo q ≤ k → k < hi q → p = q
  | 0, p, q, hd, hp, _, _, _, _, _, _ => by
    have := tre_le h hp
    omega
  | d + 1, p, q, hd, hp, hq, hl, h1, h2, h3, h4 => by
    have tp := tre_top h 39 p (by omega) hp
    have tq := tre_top h 39 q (by omega) hq
    by_cases ep : p = 0
    · by_cases eq : q = 0
      · rw [ep, eq]
      · have := tq.2 eq
        rw [ep] at hl
        omega
    · by_cases eq : q = 0
      · have := tp.2 ep
        rw [eq] at hl
        omega
      · obtain ⟨u1, u2, u3, u4, u5, u6⟩ := tre_up h hp ep
        obtain ⟨v1, v2, v3, v4, v5, v6⟩ := tre_up h hq eq
        have e := tre_uni (k := k) h d (up p) (up q) (by omega) u1 v1 (by omega) (by omega) (by omega) (by omega) (by omega)
        rw [← e] at v3
        exact chn_uni ((h.2.2.1 (up p) u1).2.2.2.2 u2).2 u3 v3 h1 h2 h3 h4
-- one leaf for a key
theorem tre_leaf (h : tre C M pr lo hi lv up) {k p q : Nat} (hp : p < M) (hq : q < M) (bp : (C p).1 = false) (bq : (C q).1 = false) (h1 : lo p ≤ k) (h2 : k < hi p) (h3 : lo q ≤ k) (h4 : k < hi q) : p = q := by
  have l1 := ((h.2.2.1 p hp).2.2.2.1 bp).1
  have l2 := ((h.2.2.1 q hq).2.2.2.1 bq).1
  exact tre_uni (k := k) h 39 p q (by omega) hp hq (by omega) h1 h2 h3 h4
end TRE
