/-! Rules that the printed rows of the methods use. -/
theorem zwp_ldx {m n j cd i pc' : Nat} {x : Int32} {c : zC} {ls : List (Option zV)} {r : List zV} {t : zT} {Q : zO → zT → Prop} (hz : zone m c = some (.inl (zin x n, pc', ls, .inl (t.1 cd i x.toNatClampNeg) :: r, t))) (hx : x = nI j) (hj : j < n) (hn : n < 2 ^ 31) (h : zwp m (pc', ls, .inl (t.1 cd i j) :: r, t) Q) : zwp m c Q := by
  rw [hx] at hz
  exact zwp_ld hz hj hn h
theorem zwp_stx {m n j cd i pc' : Nat} {x v : Int32} {c : zC} {ls : List (Option zV)} {r : List zV} {t : zT} {Q : zO → zT → Prop} (hz : zone m c = some (.inl (zin x n, pc', ls, r, (zu t.1 cd i x.toNatClampNeg v, t.2)))) (hx : x = nI j) (hj : j < n) (hn : n < 2 ^ 31) (h : zwp m (pc', ls, r, (zu t.1 cd i j v, t.2)) Q) : zwp m c Q := by
  rw [hx] at hz
  exact zwp_st hz hj hn h
theorem zwp_aldx {m n j k pc' : Nat} {x : Int32} {c : zC} {ls : List (Option zV)} {r : List zV} {t : zT} {Q : zO → zT → Prop} (hz : zone m c = some (.inl (zin x n, pc', ls, .inr (zel t.2 k x.toNatClampNeg) :: r, t))) (hx : x = nI j) (hj : j < n) (hn : n < 2 ^ 31) (hk : zok t.2 k j = true) (h : zwp m (pc', ls, .inr (some (k, j)) :: r, t) Q) : zwp m c Q := by
  rw [hx] at hz
  exact zwp_ald hz hj hn hk h
theorem zwp_aldn {m n j k pc' : Nat} {x : Int32} {c : zC} {ls : List (Option zV)} {r : List zV} {t : zT} {Q : zO → zT → Prop} (hz : zone m c = some (.inl (zin x n, pc', ls, .inr (zel t.2 k x.toNatClampNeg) :: r, t))) (hx : x = nI j) (hj : j < n) (hn : n < 2 ^ 31) (hk : zok t.2 k j = false) (h : zwp m (pc', ls, .inr none :: r, t) Q) : zwp m c Q := by
  rw [hx] at hz
  exact zwp_ald0 hz hj hn hk h
theorem zok_8 {d j : Nat} (h : j < 4) : zok d 8 j = true := by
  unfold zok
  rw [if_neg (by decide)]
  exact decide_eq_true h
theorem zok_11 {d j : Nat} (h : j < 40) : zok d 11 j = true := by
  unfold zok
  rw [if_neg (by decide)]
  exact decide_eq_true h
theorem zok_3 {d j : Nat} (h : 1 ≤ j ∧ j ≤ d) : zok d 3 j = true := by
  unfold zok
  rw [if_pos rfl]
  exact decide_eq_true h
theorem zok_n3 {d j : Nat} (h : ¬ (1 ≤ j ∧ j ≤ d)) : zok d 3 j = false := by
  unfold zok
  rw [if_pos rfl]
  exact decide_eq_false h
theorem zne_t {x y : Int32} (h : zcmp .ne x y = true) : ¬ x = y := of_decide_eq_true h
theorem zne_f {x y : Int32} (h : zcmp .ne x y = false) : x = y := Decidable.not_not.mp (of_decide_eq_false h)
theorem zwp_ret01 {m : Nat} {c : zC} {x : Int32} {o : zO} {t : zT} {Q : zO → zT → Prop} (hz : zone m c = if x = 0 ∨ x = 1 then zend o t else none) (hx : x = 0 ∨ x = 1) (h : Q o t) : zwp m c Q := by
  rw [if_pos hx] at hz
  exact zwp_end hz h
theorem zwp_sw {m pc pc' : Nat} {d lo hi off : Int} {offs : Array Int} {x : Int32} {c : zC} {ls : List (Option zV)} {r : List zV} {t : zT} {Q : zO → zT → Prop} (hz : zone m c = match zsw d lo hi offs x with
    | some off => zgo (ztgt pc off) ls r t
    | none => none) (hs : zsw d lo hi offs x = some off) (hp : ztgt pc off = pc') (h : zwp m (pc', ls, r, t) Q) : zwp m c Q := by
  rw [hs] at hz
  rw [← hp] at h
  exact zwp_grd hz rfl h
theorem zsw_d {d lo hi : Int} {offs : Array Int} {x : Int32} {a b : Nat} (hlo : lo = (a : Int)) (hhi : hi = (b : Int)) (h : ∀ k : Nat, a ≤ k → k ≤ b → ¬ x = nI k) : zsw d lo hi offs x = some d := by
  unfold zsw
  rw [if_pos]
  by_cases h1 : x.toInt < lo
  · exact Or.inl h1
  · by_cases h2 : hi < x.toInt
    · exact Or.inr h2
    · exfalso
      have h3 := Int32.toInt_lt x
      have h4 : x.toInt < 2 ^ 31 := h3
      refine h x.toInt.toNat (by omega) (by omega) (Int32.toInt_inj.mp ?_)
      rw [nI_toInt (by omega)]
      omega
