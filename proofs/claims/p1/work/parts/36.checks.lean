/-! The class's checks, and its calls that only look. -/
theorem ixc {n : Nat} (hn : n < 2 ^ 31) (x : Int32) : (∃ j, j < n ∧ x = nI j) ∨ (x < 0 ∨ nI n ≤ x) := by
  by_cases h0 : x.toInt < 0
  · exact Or.inr (Or.inl (by rw [Int32.lt_iff_toInt_lt]; exact h0))
  · by_cases h : x.toInt < (n : Int)
    · refine Or.inl ⟨x.toInt.toNat, by omega, ?_⟩
      apply Int32.toInt_inj.mp
      rw [nI_toInt (by omega)]
      omega
    · exact Or.inr (Or.inr (by rw [Int32.le_iff_toInt_le, nI_toInt hn]; omega))
section CH
variable {S : zS} {d : Nat}
theorem c16y {j : Nat} (hj : j < 4) : zwp 16 (0, zent 16 [.inl (nI j)], [], (S, d)) (fun o t => o = .inl (some (.inl (nI 1))) ∧ t = (S, d)) :=
  w16_0 ⟨fun h => absurd h (nI_pos (by omega)), fun _ => ⟨fun h => absurd h (nI_ge hj (by decide)), fun _ => ⟨rfl, rfl⟩⟩⟩
theorem c16n {x : Int32} (hx : x < 0 ∨ nI 4 ≤ x) : zwp 16 (0, zent 16 [.inl x], [], (S, d)) (fun o t => o = .inl (some (.inl (nI 0))) ∧ t = (S, d)) :=
  w16_0 ⟨fun _ => ⟨rfl, rfl⟩, fun h0 => ⟨fun _ => ⟨rfl, rfl⟩, fun h1 => (hx.elim h0 h1).elim⟩⟩
theorem c17y {j : Nat} (hj : j < 40) : zwp 17 (0, zent 17 [.inl (nI j)], [], (S, d)) (fun o t => o = .inl (some (.inl (nI 1))) ∧ t = (S, d)) :=
  w17_0 ⟨fun h => absurd h (nI_pos (by omega)), fun _ => ⟨fun h => absurd h (nI_ge hj (by decide)), fun _ => ⟨rfl, rfl⟩⟩⟩
theorem c17n {x : Int32} (hx : x < 0 ∨ nI 40 ≤ x) : zwp 17 (0, zent 17 [.inl x], [], (S, d)) (fun o t => o = .inl (some (.inl (nI 0))) ∧ t = (S, d)) :=
  w17_0 ⟨fun _ => ⟨rfl, rfl⟩, fun h0 => ⟨fun _ => ⟨rfl, rfl⟩, fun h1 => (hx.elim h0 h1).elim⟩⟩
theorem c18y {n j : Nat} (hS : S 4 0 0 = nI n) (hn : n < 2 ^ 31) (hj : j < n) : zwp 18 (0, zent 18 [.inr (some (0, 0)), .inl (nI j)], [], (S, d)) (fun o t => o = .inl (some (.inl (nI 1))) ∧ t = (S, d)) :=
  w18_0 ⟨fun h => absurd h (nI_pos (by omega)), fun _ => ⟨fun h => absurd h (by rw [hS]; exact nI_ge hj hn), fun _ => ⟨rfl, rfl⟩⟩⟩
theorem c18n {n : Nat} {x : Int32} (hS : S 4 0 0 = nI n) (hx : x < 0 ∨ nI n ≤ x) : zwp 18 (0, zent 18 [.inr (some (0, 0)), .inl x], [], (S, d)) (fun o t => o = .inl (some (.inl (nI 0))) ∧ t = (S, d)) :=
  w18_0 ⟨fun _ => ⟨rfl, rfl⟩, fun h0 => ⟨fun _ => ⟨rfl, rfl⟩, fun h1 => (hx.elim h0 (by rw [hS] at h1; exact h1)).elim⟩⟩
theorem i01 : ¬ nI 1 = 0 := by decide
theorem i00 : nI 0 = 0 := by decide
theorem c19y {j : Nat} (hj : j < 4) : zwp 19 (0, zent 19 [.inl (nI j)], [], (S, d)) (fun o t => o = .inl none ∧ t = (S, d)) :=
  w19_0 (zwp_mono (c16y hj) (fun o t h => by obtain ⟨rfl, rfl⟩ := h; exact w19_4 ⟨fun z => absurd z i01, fun _ => ⟨rfl, rfl⟩⟩))
theorem c19n {x : Int32} (hx : x < 0 ∨ nI 4 ≤ x) : zwp 19 (0, zent 19 [.inl x], [], (S, d)) (fun o t => o = .inr 1 ∧ t = (S, d)) :=
  w19_0 (zwp_mono (c16n hx) (fun o t h => by obtain ⟨rfl, rfl⟩ := h; exact w19_4 ⟨fun _ => ⟨rfl, rfl⟩, fun z => absurd i00 z⟩))
theorem c20y {j k : Nat} (hj : j < 4) (hk : k < 40) : zwp 20 (0, zent 20 [.inl (nI j), .inl (nI k)], [], (S, d)) (fun o t => o = .inl none ∧ t = (S, d)) :=
  w20_0 (zwp_mono (c16y hj) (fun o t h => by
    obtain ⟨rfl, rfl⟩ := h
    exact w20_4 ⟨fun z => absurd z i01, fun _ => zwp_mono (c17y hk) (fun o t h => by obtain ⟨rfl, rfl⟩ := h; exact w20_11 ⟨fun z => absurd z i01, fun _ => ⟨rfl, rfl⟩⟩)⟩))
theorem c20n {x y : Int32} (hx : (x < 0 ∨ nI 4 ≤ x) ∨ ((∃ j, j < 4 ∧ x = nI j) ∧ (y < 0 ∨ nI 40 ≤ y))) : zwp 20 (0, zent 20 [.inl x, .inl y], [], (S, d)) (fun o t => o = .inr 1 ∧ t = (S, d)) := by
  rcases hx with hx | ⟨⟨j, hj, rfl⟩, hy⟩
  · exact w20_0 (zwp_mono (c16n hx) (fun o t h => by obtain ⟨rfl, rfl⟩ := h; exact w20_4 ⟨fun _ => ⟨rfl, rfl⟩, fun z => absurd i00 z⟩))
  · exact w20_0 (zwp_mono (c16y hj) (fun o t h => by
      obtain ⟨rfl, rfl⟩ := h
      exact w20_4 ⟨fun z => absurd z i01, fun _ => zwp_mono (c17n hy) (fun o t h => by obtain ⟨rfl, rfl⟩ := h; exact w20_11 ⟨fun _ => ⟨rfl, rfl⟩, fun z => absurd i00 z⟩)⟩))
theorem c21y {j : Nat} (hj : j < 4) (h : ¬ S 960 0 j = 0) : zwp 21 (0, zent 21 [.inr (some (0, 0)), .inl (nI j)], [], (S, d)) (fun o t => o = .inl none ∧ t = (S, d)) :=
  w21_0 ⟨j, rfl, hj, fun z => absurd z h, fun _ => ⟨rfl, rfl⟩⟩
theorem c21n {j : Nat} (hj : j < 4) (h : S 960 0 j = 0) : zwp 21 (0, zent 21 [.inr (some (0, 0)), .inl (nI j)], [], (S, d)) (fun o t => o = .inr 2 ∧ t = (S, d)) :=
  w21_0 ⟨j, rfl, hj, fun _ => ⟨rfl, rfl⟩, fun z => absurd h z⟩
theorem c22 {g : Nat} (hS : S 7 0 0 = nI g) (hg : g < 512) : zwp 22 (0, zent 22 [.inr (some (0, 0))], [], (S, d)) (fun o t => o = .inl (some (.inl (nI 0))) ∧ t = (zu S 7 0 0 (nI (g + 1)), d)) := by
  refine w22_0 ⟨fun z => ?_, fun _ => ⟨rfl, ?_⟩⟩
  · rw [hS, nI_eq_iff (by omega) (by decide)] at z
    omega
  · rw [hS, nI_add]
theorem c23 {j : Nat} {hd : Nat → Nat → Nat} (hl : lheld S hd) (hj : j < 4) : zwp 23 (0, zent 23 [.inr (some (0, 0)), .inl (nI j)], [], (S, d)) (fun o t => ∃ S', o = .inl none ∧ t = (S', d) ∧ zfr S S' (fun f i => f = 512 ∨ f = 960) ∧ lheld S' (fun t' k => if t' = j then 0 else hd t' k) ∧ (∀ x, S' 960 0 x = if x = j then nI 0 else S 960 0 x)) := by
  have hl1 : lheld (zu S 960 0 j (nI 0)) hd := fun t k ht hk => by
    rw [zu_f _ _ (by decide)]
    exact hl t k ht hk
  refine w23_0 ⟨j, rfl, hj, zwp_mono (c57 hl1 hj) (fun o t h => ?_)⟩
  obtain ⟨S', rfl, rfl, f1, h1⟩ := h
  have f1 : ∀ f i x, ¬ pheld f i → S' f i x = zu S 960 0 j (nI 0) f i x := f1
  refine w23_15 ⟨S', rfl, rfl, fun f i x hf => ?_, h1, fun x => ?_⟩
  · rw [f1 f i x (fun z => hf (by have : f = 512 := z; omega))]
    rw [zu_f _ _ (fun z => hf (by omega))]
  · rw [f1 960 0 x (show ¬ (960 = 512) by decide)]
    by_cases hx : x = j
    · rw [if_pos hx, hx, zu_self]
    · rw [if_neg hx, zu_j _ _ hx]
end CH
