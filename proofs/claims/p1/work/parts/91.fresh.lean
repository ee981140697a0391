/-! A fresh object, and one call on it. -/
abbrev fL : Nat → aRec := fun _ => (0, 0, 0, 0, 0, 0, 0, false, 0, (false, [], []))
abbrev fA : aSt := (fL, 0, 0, (fun _ => 0), (fun _ => false), (fun _ => none), [], 0, 0, 0, 0)
theorem f_lkC : lkC cS0 0 0 fA := by
  refine ⟨⟨rfl, rfl, rfl, Nat.le_refl _, by decide, fun m h1 h2 => (by omega)⟩, rfl, fun p hp => ⟨rfl, rfl, ⟨rfl, rfl, fun i h hi => (by simp [con] at hi), fun i v hi => (by simp [con] at hi)⟩, rfl, rfl, rfl⟩, ⟨rfl, fun i p hp => (by simp at hp)⟩, rfl, rfl, rfl, rfl⟩
theorem f_wA : wA fA := by
  refine ⟨by decide, by decide, fun k h1 h2 => (by omega), fun p => ?_, ⟨by decide, fun p hp => (by cases hp), List.nodup_nil⟩, fun p hp => (by cases hp), fun p => Nat.le_refl _, fun p x hx => (by cases hx)⟩
  show wcon (false, [], [])
  exact ⟨by decide, fun h hh => (by cases hh), by decide, fun h => (by cases h)⟩
theorem f_copy {p : Nat} (hp : p < 48) : cS0 1920 0 p = zint (-1) := by
  show cmf 48 p = zint (-1)
  unfold cmf
  rw [if_pos hp]
  rfl
theorem f_lkM : lkM cS0 0 fA := by
  refine ⟨⟨rfl, rfl, rfl, fun k h1 h2 => (by omega)⟩, rfl, fun p hp => ⟨rfl, rfl, f_copy hp⟩, ⟨rfl, fun _ => 0, fun p hp => rfl, fun p => Nat.le_refl _, fun p hp => ⟨fun z => absurd z (Nat.lt_irrefl 0), fun z => (by cases z)⟩, fun i j a b _ ha => (by simp at ha)⟩, rfl, rfl, rfl, rfl⟩
theorem f_whl : whl fA := fun k h1 h2 _ => by
  have h2 : k ≤ 0 := h2
  omega
theorem f_los : llos cS0 (fun _ => 0) := fun k _ => rfl
theorem f_held : lheld cS0 (fun _ _ => 0) := fun t k _ _ => rfl
theorem f_M : gM fA ≤ 40 := by decide
theorem k6z {S : zS} {d : Nat} {ls : Nat → Nat} (hl : llos S ls) (hw : wlos ls) (h0 : lla ls 0 40 = 0) : zwp 6 (0, zent 6 [.inr (some (0, 0))], [], (S, d)) (fun o t => o = .inl (some (.inl (nI 0))) ∧ t = (S, d)) :=
  w6_0 (w6_4 ⟨fun h => absurd h (by decide), fun _ => zwp_mono (c60 hl hw (s := 0) (by decide)) (fun o t h => by
    obtain ⟨rfl, rfl⟩ := h
    exact w6_18 ⟨fun _ => ⟨rfl, rfl⟩, fun z => absurd (by rw [h0]; rfl) z⟩)⟩)
theorem r111z {S : zS} {d : Nat} (h : S 1053 0 0 = nI 0) : zwp 111 (0, zent 111 [.inr (some (16, 0))], [], (S, d)) (fun o t => o = .inl (some (.inl (nI 0))) ∧ t = (zu S 1024 0 0 (nI 0), d)) :=
  w111_0 (w111_9 ⟨fun _ => ⟨rfl, rfl⟩, fun z => absurd (by rw [zu_f _ _ (by decide), h]; decide) z⟩)
theorem mrest {S S' : zS} (h : zkp S S') : ∀ f i j, 1024 ≤ f → S' f i j = S f i j := fun f i j hf => h f i j (by omega)
theorem lkM_kp {S S' : zS} {ck : Nat} {A : aSt} (h : ∀ f i j, 1024 ≤ f → S' f i j = S f i j) (hl : lkM S ck A) : lkM S' ck A := lkM_fr (fun f i j hf => h f i j (by
  have hf : f = 1025 ∨ f = 1026 ∨ f = 1036 ∨ f = 1038 ∨ (1043 ≤ f ∧ f ≤ 1047) ∨ (1088 ≤ f ∧ f ≤ 1920) := hf
  omega)) hl
abbrev P1 : zT → Prop := fun t => t.2 ≤ 1144
theorem badPK (a1 a2 : Int32) : ((a1 < 0 ∨ nI 4 ≤ a1) ∨ ((∃ j, j < 4 ∧ a1 = nI j) ∧ (a2 < 0 ∨ nI 40 ≤ a2))) ∨ ∃ j k, j < 4 ∧ k < 40 ∧ a1 = nI j ∧ a2 = nI k := by
  rcases ixc (n := 4) (by decide) a1 with ⟨j, hj, h1⟩ | hx
  · rcases ixc (n := 40) (by decide) a2 with ⟨k, hk, h2⟩ | hy
    · exact Or.inr ⟨j, k, hj, hk, h1, h2⟩
    · exact Or.inl (Or.inr ⟨⟨j, hj, h1⟩, hy⟩)
  · exact Or.inl (Or.inl hx)
theorem p1_0 (a1 : Int32) : ∃ t2, lOpA 0 104 false [.inl a1] (cS0, 0) t2 ∧ P1 t2 := by
  rcases ixc (n := 4) (by decide) a1 with ⟨j, hj, rfl⟩ | hx
  · refine opA_of (zwp_mono (k0 (g := 0) (sr := 0) hj rfl rfl (by decide) rfl) (fun o t h => ?_))
    obtain ⟨rfl, rfl⟩ := h
    refine ⟨Or.inl ⟨_, rfl⟩, zwp_mono (r104 (sr := 0) hj ?_ ?_) (fun o t h => ?_)⟩
    · rw [zu_f _ _ (by decide), zu_f _ _ (by decide), zu_f _ _ (by decide)]
      rfl
    · rw [zu_f _ _ (by decide), zu_f _ _ (by decide), zu_f _ _ (by decide)]
      rfl
    · obtain ⟨rfl, rfl⟩ := h
      refine ⟨_, rfl, ?_, fun x hx => (by cases hx; rfl), Nat.zero_le _⟩
      dsimp only
      rw [zu_f _ _ (by decide), zu_f _ _ (by decide), zu_self]
      rfl
  · exact opA_no (Or.inl rfl) (k0i hx) (r104i hx) (fun _ _ => Nat.zero_le _)
theorem p1_1 (a1 a2 : Int32) : ∃ t2, lOpA 1 106 true [.inl a1, .inl a2] (cS0, 0) t2 ∧ P1 t2 := by
  rcases badPK a1 a2 with hx | ⟨j, k, hj, hk, rfl, rfl⟩
  · exact opA_no (Or.inl rfl) (k1i hx) (r106f (Or.inl rfl) (r105i hx)) (fun _ _ => Nat.zero_le _)
  · exact opA_no (Or.inr rfl) (k1s hj hk rfl) (r106f (Or.inr rfl) (r105s hj hk rfl)) (fun _ _ => Nat.zero_le _)
theorem p1_2 (a1 a2 a3 : Int32) : ∃ t2, lOpA 2 107 false [.inl a1, .inl a2, .inl a3] (cS0, 0) t2 ∧ P1 t2 := by
  rcases badPK a1 a2 with hx | ⟨j, k, hj, hk, rfl, rfl⟩
  · exact opA_no (Or.inl rfl) (k2i hx) (r107f (Or.inl rfl) (r105i hx)) (fun _ _ => Nat.zero_le _)
  · exact opA_no (Or.inr rfl) (k2s hj hk rfl) (r107f (Or.inr rfl) (r105s hj hk rfl)) (fun _ _ => Nat.zero_le _)
theorem p1_3 (a1 a2 : Int32) : ∃ t2, lOpA 3 108 true [.inl a1, .inl a2] (cS0, 0) t2 ∧ P1 t2 := by
  rcases badPK a1 a2 with hx | ⟨j, k, hj, hk, rfl, rfl⟩
  · exact opA_no (Or.inl rfl) (k3i hx) (r108f (Or.inl rfl) (r105i hx)) (fun _ _ => Nat.zero_le _)
  · exact opA_no (Or.inr rfl) (k3s hj hk rfl) (r108f (Or.inr rfl) (r105s hj hk rfl)) (fun _ _ => Nat.zero_le _)
theorem p1_4 (a1 : Int32) : ∃ t2, lOpA 4 109 false [.inl a1] (cS0, 0) t2 ∧ P1 t2 := by
  rcases ixc (n := 4) (by decide) a1 with ⟨j, hj, rfl⟩ | hx
  · exact opA_no (Or.inr rfl) (k4s hj rfl) (r109s hj rfl) (fun _ _ => Nat.zero_le _)
  · exact opA_no (Or.inl rfl) (k4i hx) (r109i hx) (fun _ _ => Nat.zero_le _)
theorem p1_5 (a1 : Int32) : ∃ t2, lOpA 5 110 false [.inl a1] (cS0, 0) t2 ∧ P1 t2 := by
  rcases ixc (n := 4) (by decide) a1 with ⟨j, hj, rfl⟩ | hx
  · exact opA_no (Or.inr rfl) (k5s hj rfl) (r110s hj rfl) (fun _ _ => Nat.zero_le _)
  · exact opA_no (Or.inl rfl) (k5i hx) (r110i hx) (fun _ _ => Nat.zero_le _)
theorem p1_6 : ∃ t2, lOpB 6 111 [] (cS0, 0) t2 ∧ P1 t2 := by
  refine opB_of (zwp_mono (k6z f_los (fun _ => by decide) (by decide +kernel)) (fun o t h => ?_))
  obtain ⟨rfl, rfl⟩ := h
  refine ⟨_, rfl, zwp_mono (r111z rfl) (fun o t h => ?_)⟩
  obtain ⟨rfl, rfl⟩ := h
  exact ⟨rfl, Nat.zero_le _⟩
theorem p1_7 (a1 : Int32) : ∃ t2, lOpB 7 113 [.inl a1] (cS0, 0) t2 ∧ P1 t2 := by
  refine opB_of (zwp_mono (k7 f_lkC f_wA f_M) (fun o t h => ?_))
  obtain ⟨S1, rfl, rfl, g1, g2⟩ := h
  refine ⟨_, rfl, zwp_mono (r113 (lkM_kp (mrest g2) f_lkM) f_wA f_whl f_M (by decide)) (fun o t h => ?_)⟩
  obtain ⟨S2, rfl, rfl, -⟩ := h
  exact ⟨rfl, Nat.zero_le _⟩
theorem p1_8 (a1 : Int32) : ∃ t2, lOpB 8 114 [.inl a1] (cS0, 0) t2 ∧ P1 t2 := by
  refine opB_of (zwp_mono (k8 f_lkC f_wA f_M) (fun o t h => ?_))
  obtain ⟨S1, rfl, rfl, g1, g2⟩ := h
  refine ⟨_, rfl, zwp_mono (r114 (lkM_kp (mrest g2) f_lkM) f_wA f_whl (fun p hp k h1 h2 _ => ?_) f_M (by decide)) (fun o t h => ?_)⟩
  · rw [log_fix.2] at h2
    have h2 : k ≤ 0 := h2
    omega
  · obtain ⟨S2, rfl, rfl, -⟩ := h
    exact ⟨rfl, Nat.zero_le _⟩
theorem p1_9 (a1 : Int32) : ∃ t2, lOpB 9 115 [.inl a1] (cS0, 0) t2 ∧ P1 t2 := by
  refine opB_of (zwp_mono (k9 f_lkC f_M) (fun o t h => ?_))
  obtain ⟨S1, rfl, rfl, g1, g2⟩ := h
  refine ⟨_, rfl, zwp_mono (r115 (lkM_kp (mrest g2) f_lkM) f_M) (fun o t h => ?_)⟩
  obtain ⟨S2, rfl, rfl, -⟩ := h
  exact ⟨rfl, Nat.zero_le _⟩
theorem p1_10 : ∃ t2, lOpB 10 116 [] (cS0, 0) t2 ∧ P1 t2 := by
  refine opB_of (zwp_mono (k10 f_lkC f_held (Nat.le_refl _) (by decide) (fun k hk => by omega) (fun k h1 h2 => by omega)) (fun o t h => ?_))
  obtain ⟨S1, rfl, rfl, g1, g2, g3⟩ := h
  have hk : ∀ f i j, 1024 ≤ f → S1 f i j = cS0 f i j := fun f i j hf => g3 f i j (fun z => z (Or.inr (Or.inr hf)))
  refine ⟨_, rfl, zwp_mono (r116 (ss := 0) (lkM_kp hk f_lkM) (by decide) (Nat.le_refl _) ⟨by decide, fun k h1 h2 => (by omega)⟩ (fun p _ => rfl) (hk 1053 0 0 (by decide)) (by decide)) (fun o t h => ?_)⟩
  obtain ⟨S2, rfl, rfl, -⟩ := h
  refine ⟨?_, Nat.zero_le _⟩
  have e : losOf fL 0 = fun _ => 0 := rfl
  rw [e]
  decide +kernel
theorem p1_11 (a1 a2 : Int32) : ∃ t2, lOpB 11 118 [.inl a1, .inl a2] (cS0, 0) t2 ∧ P1 t2 := by
  refine opB_of (zwp_mono (k11 f_lkC f_wA f_M) (fun o t h => ?_))
  obtain ⟨rfl, rfl⟩ := h
  refine ⟨_, rfl, zwp_mono (r118 f_lkM f_wA f_M (by decide)) (fun o t h => ?_)⟩
  obtain ⟨rfl, rfl⟩ := h
  exact ⟨rfl, Nat.zero_le _⟩
theorem p1_12 (a1 a2 : Int32) : ∃ t2, lOpB 12 119 [.inl a1, .inl a2] (cS0, 0) t2 ∧ P1 t2 := by
  refine opB_of (zwp_mono (k12 f_lkC f_wA f_M) (fun o t h => ?_))
  obtain ⟨rfl, rfl⟩ := h
  refine ⟨_, rfl, zwp_mono (r119 f_lkM f_wA (fun k hk => by have hk : k < 0 := hk; omega) (fun k hk => by have hk : k < 0 := hk; omega) (Nat.zero_le _) f_M) (fun o t h => ?_)⟩
  obtain ⟨S2, rfl, rfl, -⟩ := h
  exact ⟨rfl, Nat.zero_le _⟩
theorem p1_13 (a1 : Int32) : ∃ t2, lOpB 13 120 [.inl a1] (cS0, 0) t2 ∧ P1 t2 := by
  refine opB_of (zwp_mono (k13 (sr := 0) f_lkC rfl f_los (fun _ => by decide)) (fun o t h => ?_))
  obtain ⟨rfl, rfl⟩ := h
  refine ⟨_, rfl, zwp_mono (r120 (ss := 0) (sr := fun _ => 0) f_lkM f_wA (fun j _ => rfl) (fun _ => by decide) rfl (by decide)) (fun o t h => ?_)⟩
  obtain ⟨rfl, rfl⟩ := h
  have e : ccl (fun _ => 0) 40 (lla (fun _ => 0) 0 40) = 0 := by decide +kernel
  rw [e]
  exact ⟨rfl, Nat.zero_le _⟩
theorem p1_14 (a1 a2 : Int32) : ∃ t2, lOpB 14 121 [.inl a1, .inl a2] (cS0, 0) t2 ∧ P1 t2 := by
  refine opB_of (zwp_mono (k14 f_lkC f_wA) (fun o t h => ?_))
  obtain ⟨rfl, rfl⟩ := h
  refine ⟨_, rfl, zwp_mono (r121 f_lkM f_wA) (fun o t h => ?_)⟩
  obtain ⟨rfl, rfl⟩ := h
  exact ⟨rfl, Nat.zero_le _⟩
theorem p1_15 (a1 a2 : Int32) : ∃ t2, lOpB 15 122 [.inl a1, .inl a2] (cS0, 0) t2 ∧ P1 t2 := by
  refine opB_of (zwp_mono (k15 (sr := fun _ => 0) (hd := fun _ _ => 0) (fun j _ => rfl) f_held (fun _ => by decide)) (fun o t h => ?_))
  obtain ⟨rfl, rfl⟩ := h
  refine ⟨_, rfl, zwp_mono (r122 (sr := fun _ => 0) (hd := fun _ _ => 0) (fun j _ => rfl) (fun t k _ _ => rfl) (fun _ => by decide)) (fun o t h => ?_)⟩
  obtain ⟨rfl, rfl⟩ := h
  exact ⟨rfl, Nat.zero_le _⟩
theorem p1_step (op : Nat) (a1 a2 a3 : Int32) (hop : op < 16) : ∃ t2, lOp op a1 a2 a3 (cS0, 0) t2 ∧ P1 t2 := by
  have hkk : op = 0 ∨ op = 1 ∨ op = 2 ∨ op = 3 ∨ op = 4 ∨ op = 5 ∨ op = 6 ∨ op = 7 ∨ op = 8 ∨ op = 9 ∨ op = 10 ∨ op = 11 ∨ op = 12 ∨ op = 13 ∨ op = 14 ∨ op = 15 := by omega
  rcases hkk with rfl | rfl | rfl | rfl | rfl | rfl | rfl | rfl | rfl | rfl | rfl | rfl | rfl | rfl | rfl | rfl
  · exact p1_0 a1
  · exact p1_1 a1 a2
  · exact p1_2 a1 a2 a3
  · exact p1_3 a1 a2
  · exact p1_4 a1
  · exact p1_5 a1
  · exact p1_6
  · exact p1_7 a1
  · exact p1_8 a1
  · exact p1_9 a1
  · exact p1_10
  · exact p1_11 a1 a2
  · exact p1_12 a1 a2
  · exact p1_13 a1
  · exact p1_14 a1 a2
  · exact p1_15 a1 a2
