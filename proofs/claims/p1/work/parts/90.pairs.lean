/-! A call of the class and the same call of the reference. -/
theorem opA_of {m mm : Nat} {th : Bool} {as : List zV} {t : zT} {P : zT → Prop} (h : zwp m (0, zent m (.inr (some (0, 0)) :: as), [], t) (fun o t1 => ((∃ x, o = .inl (some (.inl x))) ∨ o = .inr 1 ∨ o = .inr 2 ∨ (th = true ∧ o = .inr 3)) ∧ zwp mm (0, zent mm (.inr (some (16, 0)) :: as), [], t1) (fun o2 t2 => ∃ r, o2 = .inl (some (.inl r)) ∧ t2.1 1024 0 0 = lcode o ∧ (∀ x, o = .inl (some (.inl x)) → x = r) ∧ P t2))) : ∃ t2, lOpA m mm th as t t2 ∧ P t2 := by
  obtain ⟨N1, o, t1, z1, h1, N2, o2, t2, z2, r, rfl, h2, h3, h4⟩ := h
  exact ⟨t2, ⟨N1, N2, o, t1, r, z1, h1, z2, h2, h3⟩, h4⟩
theorem opB_of {m mm : Nat} {as : List zV} {t : zT} {P : zT → Prop} (h : zwp m (0, zent m (.inr (some (0, 0)) :: as), [], t) (fun o t1 => ∃ v, o = .inl (some (.inl v)) ∧ zwp mm (0, zent mm (.inr (some (16, 0)) :: as), [], t1) (fun o2 t2 => o2 = .inl (some (.inl v)) ∧ P t2))) : ∃ t2, lOpB m mm as t t2 ∧ P t2 := by
  obtain ⟨N1, o, t1, z1, v, rfl, N2, o2, t2, z2, rfl, h4⟩ := h
  exact ⟨t2, ⟨N1, N2, v, t1, z1, z2⟩, h4⟩
-- refused by both
theorem opA_no {m mm c d : Nat} {th : Bool} {as : List zV} {S : zS} {P : zT → Prop} (hc : c = 1 ∨ c = 2) (h1 : zwp m (0, zent m (.inr (some (0, 0)) :: as), [], (S, d)) (fun o t => o = .inr c ∧ t = (S, d))) (h2 : zwp mm (0, zent mm (.inr (some (16, 0)) :: as), [], (S, d)) (rfail S d c)) (hP : ∀ S', (∀ f i j, f ≠ 1024 → S' f i j = S f i j) → P (S', d)) : ∃ t2, lOpA m mm th as (S, d) t2 ∧ P t2 := by
  refine opA_of (zwp_mono h1 (fun o t h => ?_))
  obtain ⟨rfl, rfl⟩ := h
  refine ⟨by rcases hc with rfl | rfl <;> simp, zwp_mono h2 (fun o t h => ?_)⟩
  obtain ⟨S', rfl, rfl, g1, g2⟩ := h
  exact ⟨nI 0, rfl, g1, fun x hx => (by cases hx), hP S' g2⟩
