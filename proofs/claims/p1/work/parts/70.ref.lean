/-! The reference's part of the state, against the model; its small methods. -/
def mkp (S S' : zS) : Prop := ∀ f i j, f < 1024 → S' f i j = S f i j
theorem mkp.rf (S : zS) : mkp S S := fun _ _ _ _ => rfl
theorem mkp.tr {S S1 S2 : zS} (h1 : mkp S S1) (h2 : mkp S1 S2) : mkp S S2 := fun f i j h => (h2 f i j h).trans (h1 f i j h)
theorem mkp.zu {S S1 : zS} {f i j : Nat} {v : Int32} (hf : 1024 ≤ f) (h : mkp S S1) : mkp S (zu S1 f i j v) := fun f' i' j' h' => by
  rw [zu_f _ _ (by omega)]
  exact h f' i' j' h'
def fmts (lg : Nat → aRec) : Nat → Nat
  | 0 => 0
  | n + 1 => if rK (lg (n + 1)) = 3 then fmts lg n + 1 else fmts lg n
def mfm (S : zS) (f : Nat) (c : aCon) : Prop := S 1664 0 (10 * f) = b2i c.1 ∧ S 1664 0 (10 * f + 1) = nI c.2.1.length ∧ (∀ i h, c.2.1[i]? = some h → S 1664 0 (10 * f + 2 + i) = nI h) ∧ ∀ i v, c.2.2[i]? = some v → S 1664 0 (10 * f + 6 + i) = v
def mB (S : zS) (lg : Nat → aRec) (k : Nat) : Prop := match rK (lg k) with
  | 1 => S 1280 0 k = nI (rY (lg k)) ∧ S 1344 0 k = rV (lg k) ∧ S 1408 0 k = b2i (rH (lg k)) ∧ S 1472 0 k = rB (lg k)
  | 2 => S 1280 0 k = nI (rY (lg k)) ∧ S 1408 0 k = b2i (rH (lg k)) ∧ S 1472 0 k = rB (lg k)
  | 3 => S 1344 0 k = nI (fmts lg (k - 1)) ∧ mfm S (fmts lg (k - 1)) (rF (lg k))
  | 5 => S 1280 0 k = nI (rY (lg k)) ∧ S 1344 0 k = nI (rC (lg k)) ∧ S 1472 0 k = nI (rE (lg k))
  | _ => True
def mH (S : zS) (k : Nat) (r : aRec) : Prop := S 1088 0 k = nI (rK r) ∧ (rK r < 6 → S 1152 0 k = nI (rP r)) ∧ S 1216 0 k = nI (rW r) ∧ S 1536 0 k = nI (rU r) ∧ ∃ x, S 1600 0 k = nI x ∧ x < 2000 ∧ (if k < x then x else k) = rL r
def mlog (S : zS) (lg : Nat → aRec) (n fo : Nat) : Prop := S 1025 0 0 = nI n ∧ S 1026 0 0 = nI fo ∧ S 1036 0 0 = nI (fmts lg n) ∧ ∀ k, 1 ≤ k → k ≤ n → mH S k (lg k) ∧ mB S lg k
def mpool (S : zS) (pl : List Nat) (ck : Nat) : Prop := S 1043 0 0 = nI ck ∧ ∃ fx : Nat → Nat, (∀ p, p < 48 → S 1728 0 p = nI (fx p)) ∧ (∀ p, fx p ≤ ck) ∧ (∀ p, p < 48 → (0 < fx p ↔ p ∈ pl)) ∧ ∀ (i j a b : Nat), i < j → pl[i]? = some a → pl[j]? = some b → fx a < fx b
def mpg (S : zS) (im : Nat → Nat) (dm : Nat → Bool) (bk : Nat → Option Nat) (p : Nat) : Prop := S 1792 0 p = nI (im p) ∧ S 1856 0 p = b2i (dm p) ∧ S 1920 0 p = oI (bk p)
def lkM (S : zS) (ck : Nat) (A : aSt) : Prop := match A with
  | (lg, n, fo, im, dm, bk, pl, r, w, e, q) => mlog S lg n fo ∧ S 1038 0 0 = nI (pgs lg n) ∧ (∀ p, p < 48 → mpg S im dm bk p) ∧ mpool S pl ck ∧ S 1044 0 0 = r ∧ S 1045 0 0 = w ∧ S 1046 0 0 = e ∧ S 1047 0 0 = q
-- what the numbers must keep to
section RF
variable {S : zS} {d : Nat} {lg : Nat → aRec} {n fo : Nat}
theorem r76 {x : Int32} : zwp 76 (0, zent 76 [.inr (some (16, 0)), .inl x], [], (S, d)) (fun o t => o = .inl (some (.inl (nI 0))) ∧ t = (zu S 1024 0 0 x, d)) := w76_0 ⟨rfl, rfl⟩
theorem r77y {j a b : Nat} (ha : a ≤ j) (hb : j ≤ b) (hb2 : b < 2 ^ 31) : zwp 77 (0, zent 77 [.inl (nI j), .inl (nI a), .inl (nI b)], [], (S, d)) (fun o t => o = .inl (some (.inl (nI 1))) ∧ t = (S, d)) :=
  w77_0 ⟨fun z => absurd z (nI_nlt ha (by omega)), fun _ => ⟨fun z => absurd z (nI_nlt hb hb2), fun _ => ⟨rfl, rfl⟩⟩⟩
theorem r77n {x y z : Int32} (h : x < y ∨ z < x) : zwp 77 (0, zent 77 [.inl x, .inl y, .inl z], [], (S, d)) (fun o t => o = .inl (some (.inl (nI 0))) ∧ t = (S, d)) :=
  w77_0 ⟨fun _ => ⟨rfl, rfl⟩, fun h0 => ⟨fun _ => ⟨rfl, rfl⟩, fun h1 => (h.elim h0 h1).elim⟩⟩
-- x outside 0 .. n - 1, as the two programs ask it
theorem out_n {n : Nat} (hn : n < 2 ^ 31 - 1) {x : Int32} (h : x < 0 ∨ nI (n + 1) ≤ x) : x < nI 0 ∨ nI n < x := by
  rcases h with h | h
  · exact Or.inl (by rw [nI_0]; exact h)
  · right
    rw [Int32.le_iff_toInt_le, nI_toInt (by omega)] at h
    rw [Int32.lt_iff_toInt_lt, nI_toInt (by omega)]
    omega
theorem r96y {j : Nat} (hj : j < 4) : zwp 96 (0, zent 96 [.inr (some (16, 0)), .inl (nI j)], [], (S, d)) (fun o t => o = .inl (some (.inl (nI 1))) ∧ t = (S, d)) :=
  w96_0 (zwp_mono (r77y (by omega) (by omega) (by decide)) (fun o t h => by obtain ⟨rfl, rfl⟩ := h; exact w96_6 ⟨Or.inr rfl, rfl, rfl⟩))
theorem r96n {x : Int32} (hx : x < 0 ∨ nI 4 ≤ x) : zwp 96 (0, zent 96 [.inr (some (16, 0)), .inl x], [], (S, d)) (fun o t => o = .inl (some (.inl (nI 0))) ∧ t = (S, d)) :=
  w96_0 (zwp_mono (r77n (out_n (by decide) hx)) (fun o t h => by obtain ⟨rfl, rfl⟩ := h; exact w96_6 ⟨Or.inl rfl, rfl, rfl⟩))
theorem r112y {m j : Nat} (hS : S 1038 0 0 = nI m) (hm : m < 100) (hj : j < m) : zwp 112 (0, zent 112 [.inr (some (16, 0)), .inl (nI j)], [], (S, d)) (fun o t => o = .inl (some (.inl (nI 1))) ∧ t = (S, d)) := by
  refine w112_0 ?_
  rw [hS, nI_dec (by omega)]
  exact zwp_mono (r77y (by omega) (by omega) (by omega)) (fun o t h => by obtain ⟨rfl, rfl⟩ := h; exact w112_11 ⟨Or.inr rfl, rfl, rfl⟩)
theorem r112n {m : Nat} {x : Int32} (hS : S 1038 0 0 = nI m) (hm : m < 100) (h0 : 0 < m) (hx : x < 0 ∨ nI m ≤ x) : zwp 112 (0, zent 112 [.inr (some (16, 0)), .inl x], [], (S, d)) (fun o t => o = .inl (some (.inl (nI 0))) ∧ t = (S, d)) := by
  refine w112_0 ?_
  rw [hS, nI_dec h0]
  exact zwp_mono (r77n (out_n (by omega) (by rw [show m - 1 + 1 = m by omega]; exact hx))) (fun o t h => by obtain ⟨rfl, rfl⟩ := h; exact w112_11 ⟨Or.inl rfl, rfl, rfl⟩)
theorem isPg_t {p : Nat} {r : aRec} (h : rK r < 6) (hp : rP r = p) : isPg p r = true := decide_eq_true ⟨h, hp⟩
theorem isPg_k {p : Nat} {r : aRec} (h : ¬ rK r < 6) : isPg p r = false := decide_eq_false (fun z => h z.1)
theorem isPg_p {p : Nat} {r : aRec} (h : ¬ rP r = p) : isPg p r = false := decide_eq_false (fun z => h z.2)
-- latest
theorem r78 {p : Nat} (hl : mlog S lg n fo) (hw : wlog lg n) (hp : p < 100) : zwp 78 (0, zent 78 [.inr (some (16, 0)), .inl (nI p)], [], (S, d)) (fun o t => o = .inl (some (.inl (nI (lat lg p n)))) ∧ t = (S, d)) := by
  have key : ∀ k, k ≤ n → zwp 78 (5, [some (.inr (some (16, 0))), some (.inl (nI p)), some (.inl (nI k))], [], (S, d)) (fun o t => o = .inl (some (.inl (nI (lat lg p k)))) ∧ t = (S, d)) := by
    intro k
    induction k with
    | zero =>
      intro _
      exact w78_5 ⟨fun _ => ⟨rfl, rfl⟩, fun z => absurd (by decide) z⟩
    | succ k ih =>
      intro hk
      have hn := hw.1
      obtain ⟨⟨a1, a2, -⟩, -⟩ := hl.2.2.2 (k + 1) (by omega) hk
      obtain ⟨b1, b2, -⟩ := hw.2 (k + 1) (by omega) hk
      have e1 : nI (k + 1) + zint (-1) = nI k := nI_dec' (by omega)
      refine w78_5 ⟨fun z => absurd z (nI_nle (by omega) (by omega)), fun _ => ⟨k + 1, rfl, by omega, fun h6 => ?_, fun h6 => ⟨k + 1, rfl, by omega, fun hpg => ?_, fun hpg => ?_⟩⟩⟩
      · rw [a1, nI_le_iff (by decide) (by omega)] at h6
        rw [e1, lat, isPg_k (by omega), if_neg (by decide)]
        exact ih (by omega)
      · rw [a1, nI_le_iff (by decide) (by omega)] at h6
        have h6 : rK (lg (k + 1)) < 6 := by omega
        have := b2 h6
        rw [a2 h6, nI_eq_iff (by omega) (by omega)] at hpg
        rw [lat, isPg_t h6 hpg, if_pos rfl]
        exact ⟨rfl, rfl⟩
      · rw [a1, nI_le_iff (by decide) (by omega)] at h6
        have h6 : rK (lg (k + 1)) < 6 := by omega
        have := b2 h6
        rw [a2 h6, nI_eq_iff (by omega) (by omega)] at hpg
        rw [e1, lat, isPg_p hpg, if_neg (by decide)]
        exact ih (by omega)
  refine w78_0 ?_
  rw [hl.1]
  exact key n (Nat.le_refl _)
-- force
theorem r83 {m : Nat} (hl : mlog S lg n fo) (hw : wlog lg n) (h1 : 1 ≤ m) (hm : m ≤ n) (hfo : fo < 2000) (hwh : m ≤ fo → rL (lg m) ≤ fo) : zwp 83 (0, zent 83 [.inr (some (16, 0)), .inl (nI m)], [], (S, d)) (fun o t => o = .inl none ∧ t = (if fo < m then zu S 1026 0 0 (nI (rL (lg m))) else S, d)) := by
  have hn := hw.1
  obtain ⟨⟨-, -, -, -, x, x1, x2, x3⟩, -⟩ := hl.2.2.2 m h1 hm
  have key : zwp 83 (20, [some (.inr (some (16, 0))), some (.inl (nI m)), none], [.inl (nI (rL (lg m)))], (S, d)) (fun o t => o = .inl none ∧ t = (if fo < m then zu S 1026 0 0 (nI (rL (lg m))) else S, d)) := by
    refine w83_20 ⟨fun h => ?_, fun h => ?_⟩
    · rw [hl.2.1, nI_le_iff (by omega) (by omega)] at h
      rw [if_neg (by omega)]
      exact ⟨rfl, rfl⟩
    · rw [hl.2.1, nI_le_iff (by omega) (by omega)] at h
      rw [if_pos (by omega)]
      exact ⟨rfl, rfl⟩
  refine w83_0 ⟨m, rfl, by omega, fun h => ?_, fun h => ⟨m, rfl, by omega, ?_⟩⟩
  · rw [x1, nI_le_iff (by omega) (by omega)] at h
    rw [if_neg (by omega)] at x3
    have e : rL (lg m) = m := x3.symm
    rw [e] at key ⊢
    exact key
  · rw [x1, nI_le_iff (by omega) (by omega)] at h
    rw [if_pos (by omega)] at x3
    rw [x1, x3]
    exact key
end RF
