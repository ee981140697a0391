/-! Calls of the class that are refused. -/
section RFS
variable {S : zS} {d : Nat}
theorem k1i {x y : Int32} (hx : (x < 0 ∨ nI 4 ≤ x) ∨ ((∃ j, j < 4 ∧ x = nI j) ∧ (y < 0 ∨ nI 40 ≤ y))) : zwp 1 (0, zent 1 [.inr (some (0, 0)), .inl x, .inl y], [], (S, d)) (fun o t => o = .inr 1 ∧ t = (S, d)) :=
  w1_0 (zwp_mono (c20n hx) (fun o t h => by obtain ⟨rfl, rfl⟩ := h; exact ⟨rfl, rfl⟩))
theorem k2i {x y v : Int32} (hx : (x < 0 ∨ nI 4 ≤ x) ∨ ((∃ j, j < 4 ∧ x = nI j) ∧ (y < 0 ∨ nI 40 ≤ y))) : zwp 2 (0, zent 2 [.inr (some (0, 0)), .inl x, .inl y, .inl v], [], (S, d)) (fun o t => o = .inr 1 ∧ t = (S, d)) :=
  w2_0 (zwp_mono (c20n hx) (fun o t h => by obtain ⟨rfl, rfl⟩ := h; exact ⟨rfl, rfl⟩))
theorem k3i {x y : Int32} (hx : (x < 0 ∨ nI 4 ≤ x) ∨ ((∃ j, j < 4 ∧ x = nI j) ∧ (y < 0 ∨ nI 40 ≤ y))) : zwp 3 (0, zent 3 [.inr (some (0, 0)), .inl x, .inl y], [], (S, d)) (fun o t => o = .inr 1 ∧ t = (S, d)) :=
  w3_0 (zwp_mono (c20n hx) (fun o t h => by obtain ⟨rfl, rfl⟩ := h; exact ⟨rfl, rfl⟩))
theorem k1s {j k : Nat} (hj : j < 4) (hk : k < 40) (hS : S 960 0 j = 0) : zwp 1 (0, zent 1 [.inr (some (0, 0)), .inl (nI j), .inl (nI k)], [], (S, d)) (fun o t => o = .inr 2 ∧ t = (S, d)) :=
  w1_0 (zwp_mono (c20y hj hk) (fun o t h => by obtain ⟨rfl, rfl⟩ := h; exact w1_5 (zwp_mono (c21n hj hS) (fun o t h => by obtain ⟨rfl, rfl⟩ := h; exact ⟨rfl, rfl⟩))))
theorem k2s {j k : Nat} {v : Int32} (hj : j < 4) (hk : k < 40) (hS : S 960 0 j = 0) : zwp 2 (0, zent 2 [.inr (some (0, 0)), .inl (nI j), .inl (nI k), .inl v], [], (S, d)) (fun o t => o = .inr 2 ∧ t = (S, d)) :=
  w2_0 (zwp_mono (c20y hj hk) (fun o t h => by obtain ⟨rfl, rfl⟩ := h; exact w2_5 (zwp_mono (c21n hj hS) (fun o t h => by obtain ⟨rfl, rfl⟩ := h; exact ⟨rfl, rfl⟩))))
theorem k3s {j k : Nat} (hj : j < 4) (hk : k < 40) (hS : S 960 0 j = 0) : zwp 3 (0, zent 3 [.inr (some (0, 0)), .inl (nI j), .inl (nI k)], [], (S, d)) (fun o t => o = .inr 2 ∧ t = (S, d)) :=
  w3_0 (zwp_mono (c20y hj hk) (fun o t h => by obtain ⟨rfl, rfl⟩ := h; exact w3_5 (zwp_mono (c21n hj hS) (fun o t h => by obtain ⟨rfl, rfl⟩ := h; exact ⟨rfl, rfl⟩))))
theorem k4i {x : Int32} (hx : x < 0 ∨ nI 4 ≤ x) : zwp 4 (0, zent 4 [.inr (some (0, 0)), .inl x], [], (S, d)) (fun o t => o = .inr 1 ∧ t = (S, d)) :=
  w4_0 (zwp_mono (c19n hx) (fun o t h => by obtain ⟨rfl, rfl⟩ := h; exact ⟨rfl, rfl⟩))
theorem k5i {x : Int32} (hx : x < 0 ∨ nI 4 ≤ x) : zwp 5 (0, zent 5 [.inr (some (0, 0)), .inl x], [], (S, d)) (fun o t => o = .inr 1 ∧ t = (S, d)) :=
  w5_0 (zwp_mono (c19n hx) (fun o t h => by obtain ⟨rfl, rfl⟩ := h; exact ⟨rfl, rfl⟩))
theorem k4s {j : Nat} (hj : j < 4) (hS : S 960 0 j = 0) : zwp 4 (0, zent 4 [.inr (some (0, 0)), .inl (nI j)], [], (S, d)) (fun o t => o = .inr 2 ∧ t = (S, d)) :=
  w4_0 (zwp_mono (c19y hj) (fun o t h => by obtain ⟨rfl, rfl⟩ := h; exact w4_4 (zwp_mono (c21n hj hS) (fun o t h => by obtain ⟨rfl, rfl⟩ := h; exact ⟨rfl, rfl⟩))))
theorem k5s {j : Nat} (hj : j < 4) (hS : S 960 0 j = 0) : zwp 5 (0, zent 5 [.inr (some (0, 0)), .inl (nI j)], [], (S, d)) (fun o t => o = .inr 2 ∧ t = (S, d)) :=
  w5_0 (zwp_mono (c19y hj) (fun o t h => by obtain ⟨rfl, rfl⟩ := h; exact w5_4 (zwp_mono (c21n hj hS) (fun o t h => by obtain ⟨rfl, rfl⟩ := h; exact ⟨rfl, rfl⟩))))
end RFS
