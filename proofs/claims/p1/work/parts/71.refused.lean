/-! Calls of the reference: begin, and what is refused. -/
section RRF
variable {S : zS} {d : Nat}
abbrev rfail (S : zS) (d c : Nat) : zO → zT → Prop := fun o t => ∃ S', o = .inl (some (.inl (nI 0))) ∧ t = (S', d) ∧ S' 1024 0 0 = nI c ∧ ∀ f i j, f ≠ 1024 → S' f i j = S f i j
theorem rf1 {c : Nat} : (∀ f i j, f ≠ 1024 → zu S 1024 0 0 (nI c) f i j = S f i j) := fun f i j h => zu_f _ _ h
theorem r104i {x : Int32} (hx : x < 0 ∨ nI 4 ≤ x) : zwp 104 (0, zent 104 [.inr (some (16, 0)), .inl x], [], (S, d)) (rfail S d 1) :=
  w104_0 (zwp_mono (r96n hx) (fun o t h => by
    obtain ⟨rfl, rfl⟩ := h
    exact w104_10 ⟨fun _ => zwp_mono r76 (fun o t h => by
      obtain ⟨rfl, rfl⟩ := h
      exact w104_18 ⟨_, rfl, rfl, zu_self _ _ _ _ _, fun f i j h => by rw [zu_f _ _ h, zu_f _ _ h]⟩), fun z => absurd i00 z⟩))
theorem r104s {j s : Nat} (hj : j < 4) (hS : S 2112 0 j = nI s) (h0 : 0 < s) (hs : s < 2000) : zwp 104 (0, zent 104 [.inr (some (16, 0)), .inl (nI j)], [], (S, d)) (rfail S d 2) :=
  w104_0 (zwp_mono (r96y hj) (fun o t h => by
    obtain ⟨rfl, rfl⟩ := h
    exact w104_10 ⟨fun z => absurd z i01, fun _ => ⟨j, rfl, hj, fun z => absurd z (by rw [zu_f _ _ (by decide), hS]; exact nI_nle h0 (by omega)), fun _ => zwp_mono r76 (fun o t h => by
      obtain ⟨rfl, rfl⟩ := h
      exact w104_33 ⟨_, rfl, rfl, zu_self _ _ _ _ _, fun f i j h => by rw [zu_f _ _ h, zu_f _ _ h]⟩)⟩⟩))
theorem r104 {j sr : Nat} (hj : j < 4) (hS : S 2112 0 j = 0) (hsr : S 1053 0 0 = nI sr) : zwp 104 (0, zent 104 [.inr (some (16, 0)), .inl (nI j)], [], (S, d)) (fun o t => o = .inl (some (.inl (nI (sr + 1)))) ∧ t = (zu (zu (zu S 1024 0 0 (nI 0)) 1053 0 0 (nI (sr + 1))) 2112 0 j (nI (sr + 1)), d)) :=
  w104_0 (zwp_mono (r96y hj) (fun o t h => by
    obtain ⟨rfl, rfl⟩ := h
    refine w104_10 ⟨fun z => absurd z i01, fun _ => ⟨j, rfl, hj, fun _ => ⟨j, rfl, hj, ?_⟩, fun z => absurd (by rw [zu_f _ _ (by decide), hS]; decide) z⟩⟩
    rw [show zu S 1024 0 0 (nI 0) 1053 0 0 = nI sr by rw [zu_f _ _ (by decide)]; exact hsr, nI_add]
    exact ⟨rfl, rfl⟩))
theorem r105i {x y v : Int32} (hx : (x < 0 ∨ nI 4 ≤ x) ∨ ((∃ j, j < 4 ∧ x = nI j) ∧ (y < 0 ∨ nI 40 ≤ y))) : zwp 105 (0, zent 105 [.inr (some (16, 0)), .inl x, .inl y, .inl v], [], (S, d)) (fun o t => o = .inl (some (.inl (nI 1))) ∧ t = (S, d)) := by
  rcases hx with hx | ⟨⟨j, hj, rfl⟩, hy⟩
  · exact w105_0 (zwp_mono (r96n hx) (fun o t h => by obtain ⟨rfl, rfl⟩ := h; exact w105_5 ⟨fun _ => ⟨rfl, rfl⟩, fun z => absurd i00 z⟩))
  · exact w105_0 (zwp_mono (r96y hj) (fun o t h => by
      obtain ⟨rfl, rfl⟩ := h
      exact w105_5 ⟨fun z => absurd z i01, fun _ => zwp_mono (r77n (out_n (by decide) hy)) (fun o t h => by
        obtain ⟨rfl, rfl⟩ := h
        exact w105_15 ⟨fun _ => ⟨rfl, rfl⟩, fun z => absurd i00 z⟩)⟩))
theorem r105s {j k : Nat} {v : Int32} (hj : j < 4) (hk : k < 40) (hS : S 2112 0 j = 0) : zwp 105 (0, zent 105 [.inr (some (16, 0)), .inl (nI j), .inl (nI k), .inl v], [], (S, d)) (fun o t => o = .inl (some (.inl (nI 2))) ∧ t = (S, d)) :=
  w105_0 (zwp_mono (r96y hj) (fun o t h => by
    obtain ⟨rfl, rfl⟩ := h
    exact w105_5 ⟨fun z => absurd z i01, fun _ => zwp_mono (r77y (by omega) (by omega) (by decide)) (fun o t h => by
      obtain ⟨rfl, rfl⟩ := h
      exact w105_15 ⟨fun z => absurd z i01, fun _ => ⟨j, rfl, hj, fun _ => ⟨rfl, rfl⟩, fun z => absurd (by rw [hS]; decide) z⟩⟩)⟩))
theorem rpos {c : Nat} (hc : c = 1 ∨ c = 2) : ¬ nI c ≤ 0 := by rcases hc with rfl | rfl <;> decide
theorem r106f {x y : Int32} {c : Nat} (hc : c = 1 ∨ c = 2) (h : zwp 105 (0, zent 105 [.inr (some (16, 0)), .inl x, .inl y, .inl (nI 1)], [], (S, d)) (fun o t => o = .inl (some (.inl (nI c))) ∧ t = (S, d))) : zwp 106 (0, zent 106 [.inr (some (16, 0)), .inl x, .inl y], [], (S, d)) (rfail S d c) :=
  w106_0 (zwp_mono h (fun o t h => by
    obtain ⟨rfl, rfl⟩ := h
    exact w106_8 ⟨fun z => absurd z (rpos hc), fun _ => ⟨_, rfl, rfl, zu_self _ _ _ _ _, rf1⟩⟩))
theorem r107f {x y v : Int32} {c : Nat} (hc : c = 1 ∨ c = 2) (h : zwp 105 (0, zent 105 [.inr (some (16, 0)), .inl x, .inl y, .inl (nI 2)], [], (S, d)) (fun o t => o = .inl (some (.inl (nI c))) ∧ t = (S, d))) : zwp 107 (0, zent 107 [.inr (some (16, 0)), .inl x, .inl y, .inl v], [], (S, d)) (rfail S d c) :=
  w107_0 (zwp_mono h (fun o t h => by
    obtain ⟨rfl, rfl⟩ := h
    exact w107_8 ⟨fun z => absurd z (rpos hc), fun _ => w107_34 ⟨_, rfl, rfl, zu_self _ _ _ _ _, rf1⟩⟩))
theorem r108f {x y : Int32} {c : Nat} (hc : c = 1 ∨ c = 2) (h : zwp 105 (0, zent 105 [.inr (some (16, 0)), .inl x, .inl y, .inl (nI 2)], [], (S, d)) (fun o t => o = .inl (some (.inl (nI c))) ∧ t = (S, d))) : zwp 108 (0, zent 108 [.inr (some (16, 0)), .inl x, .inl y], [], (S, d)) (rfail S d c) :=
  w108_0 (zwp_mono h (fun o t h => by
    obtain ⟨rfl, rfl⟩ := h
    exact w108_8 ⟨fun z => absurd z (rpos hc), fun _ => ⟨_, rfl, rfl, zu_self _ _ _ _ _, rf1⟩⟩))
theorem r109i {x : Int32} (hx : x < 0 ∨ nI 4 ≤ x) : zwp 109 (0, zent 109 [.inr (some (16, 0)), .inl x], [], (S, d)) (rfail S d 1) :=
  w109_0 (zwp_mono (r96n hx) (fun o t h => by
    obtain ⟨rfl, rfl⟩ := h
    exact w109_6 ⟨fun _ => w109_27 ⟨fun z => absurd z (by decide), fun _ => ⟨_, rfl, rfl, zu_self _ _ _ _ _, rf1⟩⟩, fun z => absurd i00 z⟩))
theorem r109s {j : Nat} (hj : j < 4) (hS : S 2112 0 j = 0) : zwp 109 (0, zent 109 [.inr (some (16, 0)), .inl (nI j)], [], (S, d)) (rfail S d 2) :=
  w109_0 (zwp_mono (r96y hj) (fun o t h => by
    obtain ⟨rfl, rfl⟩ := h
    exact w109_6 ⟨fun z => absurd z i01, fun _ => ⟨j, rfl, hj, fun _ => w109_27 ⟨fun z => absurd z (by decide), fun _ => ⟨_, rfl, rfl, zu_self _ _ _ _ _, rf1⟩⟩, fun z => absurd hS z⟩⟩))
theorem r110i {x : Int32} (hx : x < 0 ∨ nI 4 ≤ x) : zwp 110 (0, zent 110 [.inr (some (16, 0)), .inl x], [], (S, d)) (rfail S d 1) :=
  w110_0 (zwp_mono (r96n hx) (fun o t h => by
    obtain ⟨rfl, rfl⟩ := h
    exact w110_6 ⟨fun _ => w110_27 ⟨fun z => absurd z (by decide), fun _ => ⟨_, rfl, rfl, zu_self _ _ _ _ _, rf1⟩⟩, fun z => absurd i00 z⟩))
theorem r110s {j : Nat} (hj : j < 4) (hS : S 2112 0 j = 0) : zwp 110 (0, zent 110 [.inr (some (16, 0)), .inl (nI j)], [], (S, d)) (rfail S d 2) :=
  w110_0 (zwp_mono (r96y hj) (fun o t h => by
    obtain ⟨rfl, rfl⟩ := h
    exact w110_6 ⟨fun z => absurd z i01, fun _ => ⟨j, rfl, hj, fun _ => w110_27 ⟨fun z => absurd z (by decide), fun _ => ⟨_, rfl, rfl, zu_self _ _ _ _ _, rf1⟩⟩, fun z => absurd hS z⟩⟩))
end RRF
