/-! The reference: show, leave, crash. -/
section RSH
variable {S : zS} {d ck : Nat} {A : aSt}
theorem far {y : Int32} (h : nI 10 ≤ y) : ∀ L, L ≤ 4 → nI L ≤ y - nI 2 - nI 4 := by
  intro L hL
  rw [Int32.le_iff_toInt_le, nI_toInt (by decide)] at h
  have hy : y.toInt < 2 ^ 31 := Int32.toInt_lt y
  have e1 : (y - nI 2).toInt = y.toInt - 2 := by
    rw [Int32.toInt_sub, nI_toInt (by decide)]
    rw [Int.bmod_def]
    omega
  have e2 : (y - nI 2 - nI 4).toInt = y.toInt - 6 := by
    rw [Int32.toInt_sub, e1, nI_toInt (by decide)]
    rw [Int.bmod_def]
    omega
  rw [Int32.le_iff_toInt_le, e2, nI_toInt (by omega)]
  omega
theorem r119c {c : aCon} {x1 : Int32} {v : Nat} (hl : mlook S c) (hw : wcon c) (hv : v < 10) : zwp 119 (30, [some (.inr (some (16, 0))), some (.inl x1), some (.inl (nI v)), none, none], [], (S, d)) (fun o t => o = .inl (some (.inl (qS1 c (nI v)))) ∧ t = (S, d)) := by
  have hn := hw.1
  have hlt := hw.2.2.1
  obtain ⟨l1, l2, l3, l4⟩ := hl
  have hneg : ¬ nI v < 0 := nI_pos (by omega)
  by_cases h2 : v < 2
  · have hv2 : v = 0 ∨ v = 1 := by omega
    refine w119_30 ⟨fun h => ?_, fun _ => ⟨fun h1 => ?_, fun h1 => ?_⟩⟩
    · rw [nI_le_iff (by decide) (by omega)] at h
      omega
    · rw [nI_eq_iff (by omega) (by decide)] at h1
      subst h1
      rw [l2]
      exact ⟨rfl, rfl⟩
    · rw [nI_eq_iff (by omega) (by decide)] at h1
      have h0 : v = 0 := by omega
      subst h0
      rw [l1]
      exact b2i_br (P := fun z => (Sum.inl (some (Sum.inl z)) : zO) = .inl (some (.inl (qS1 c (nI 0)))) ∧ (S, d) = (S, d)) ⟨rfl, rfl⟩
  · by_cases h6 : v < 6
    · have ek : (nI v - nI 2) - (nI v - nI 2) / (nI 4) * (nI 4) = nI (v - 2) := by
        have hv4 : v = 2 ∨ v = 3 ∨ v = 4 ∨ v = 5 := by omega
        rcases hv4 with rfl | rfl | rfl | rfl <;> decide
      have eq : qS1 c (nI v) = cHd c (nI (v - 2)) := by
        unfold qS1
        rw [if_neg hneg, if_neg (by rw [← nI_0, nI_eq_iff (by omega) (by decide)]; omega), if_neg (by rw [nI_eq_iff (by omega) (by decide)]; omega), if_neg (by rw [nI_le_iff (by decide) (by omega)]; omega), nI_sub2 (by omega)]
      rw [eq]
      refine w119_30 ⟨fun _ => ⟨fun h => ?_, fun _ => ?_⟩, fun h => absurd (by rw [nI_le_iff (by decide) (by omega)]; omega) h⟩
      · rw [nI_le_iff (by decide) (by omega)] at h
        omega
      rw [ek, l2]
      refine ⟨fun h => ?_, fun h => ?_⟩
      · refine w119_117 ⟨fun _ => ⟨?_, rfl⟩, fun z => absurd i00 z⟩
        unfold cHd
        rw [if_pos (Or.inr h)]
      · rw [nI_le_iff (by omega) (by omega)] at h
        refine w119_117 ⟨fun z => absurd z i01, fun _ => ⟨fun z => ?_, fun _ => ⟨v - 2, rfl, by omega, ?_, rfl⟩⟩⟩
        · rw [nI_le_iff (by decide) (by omega)] at z
          omega
        obtain ⟨x, hx⟩ := lget (l := c.2.1) (i := v - 2) (by omega)
        unfold cHd
        rw [ifx_y (by omega) (by omega), nI_clamp (by omega), l3 _ _ hx, List.getD_eq_getElem?_getD, hx]
        rfl
    · have ek : (nI v - nI 2) - (nI v - nI 2) / (nI 4) * (nI 4) = nI (v - 6) := by
        have hv4 : v = 6 ∨ v = 7 ∨ v = 8 ∨ v = 9 := by omega
        rcases hv4 with rfl | rfl | rfl | rfl <;> decide
      have eq : qS1 c (nI v) = cTl c (nI (v - 6)) := by
        unfold qS1
        rw [if_neg hneg, if_neg (by rw [← nI_0, nI_eq_iff (by omega) (by decide)]; omega), if_neg (by rw [nI_eq_iff (by omega) (by decide)]; omega), if_pos (by rw [nI_le_iff (by decide) (by omega)]; omega), nI_sub2 (by omega), nI_sub2 (by omega)]
        rfl
      rw [eq]
      have h117 : zwp 119 (117, [some (.inr (some (16, 0))), some (.inl x1), some (.inl (nI v)), some (.inl (nI (v - 6))), none], [.inl (b2i (decide (v - 6 < c.2.2.length)))], (S, d)) (fun o t => o = .inl (some (.inl (cTl c (nI (v - 6))))) ∧ t = (S, d)) := by
        unfold cTl
        by_cases h : v - 6 < c.2.2.length
        · rw [decide_eq_true h]
          obtain ⟨x, hx⟩ := lget (l := c.2.2) (i := v - 6) h
          refine w119_117 ⟨fun z => absurd z i01, fun _ => ⟨fun _ => ⟨v - 6, rfl, by omega, ?_, rfl⟩, fun z => absurd (by rw [nI_le_iff (by decide) (by omega)]; omega) z⟩⟩
          rw [ifx_y (by omega) h, nI_clamp (by omega), l4 _ _ hx, List.getD_eq_getElem?_getD, hx]
          rfl
        · rw [decide_eq_false h, if_pos (Or.inr (by rw [nI_le_iff (by omega) (by omega)]; omega))]
          exact w119_117 ⟨fun _ => ⟨rfl, rfl⟩, fun z => absurd i00 z⟩
      refine w119_30 ⟨fun _ => ⟨fun _ => ⟨fun hb => ?_, fun hb => ?_⟩, fun h => absurd (by rw [nI_le_iff (by decide) (by omega)]; omega) h⟩, fun h => absurd (by rw [nI_le_iff (by decide) (by omega)]; omega) h⟩
      · rw [l1, b2i_0] at hb
        rw [hb, if_neg (by decide), Nat.sub_zero] at hlt
        rw [ek, l2]
        refine ⟨fun h => ?_, fun h => ?_⟩
        · rw [nI_le_iff (by omega) (by omega)] at h
          rw [decide_eq_false (by omega)] at h117
          exact h117
        · rw [nI_le_iff (by omega) (by omega)] at h
          rw [decide_eq_true (by omega)] at h117
          exact h117
      · have hb1 : c.1 = true := by
          cases hc : c.1 with
          | true => rfl
          | false => rw [l1, hc] at hb; exact absurd rfl hb
        have h1 := hw.2.2.2 hb1
        rw [hb1, if_pos rfl] at hlt
        rw [ek, l2, nI_dec h1]
        refine ⟨fun h => ?_, fun h => ?_⟩
        · rw [nI_le_iff (by omega) (by omega)] at h
          rw [decide_eq_false (by omega)] at h117
          exact h117
        · rw [nI_le_iff (by omega) (by omega)] at h
          rw [decide_eq_true (by omega)] at h117
          exact h117
theorem r119 {x y : Int32} (hl : lkM S ck A) (hw : wA A) (hpl : pleg (gL A) (gN A)) (hpo : pord (gL A) (gN A)) (hfm : fmts (gL A) (gN A) ≤ 100) (hM : gM A ≤ 40) : zwp 119 (0, zent 119 [.inr (some (16, 0)), .inl x, .inl y], [], (S, d)) (fun o t => ∃ S', o = .inl (some (.inl (qSh A x y))) ∧ t = (S', d) ∧ zfr S S' (fun f i => f = 1024 ∨ plk f i) ∧ S' 1024 0 0 = nI 0 ∧ lkM S' ck A) := by
  unfold qSh
  have hl1 := lkM_c (v := nI 0) hl
  have f1 : ∀ f i j, f ≠ 1024 → zu S 1024 0 0 (nI 0) f i j = S f i j := fun f i j h => zu_f _ _ h
  have c1 : zu S 1024 0 0 (nI 0) 1024 0 0 = nI 0 := zu_self _ _ _ _ _
  refine w119_0 ?_
  generalize zu S 1024 0 0 (nI 0) = S1 at hl1 f1 c1
  have hm := hl1.m
  have f1' : zfr S S1 (fun f i => f = 1024 ∨ plk f i) := fun f i j h => f1 f i j (fun z => h (Or.inl z))
  rcases ixc (n := gM A) (by omega) x with ⟨j, hj, rfl⟩ | hx
  · rw [ifx_y (by omega) hj, nI_clamp (by omega)]
    refine zwp_mono (r112y hm (by omega) hj) (fun o t h => ?_)
    obtain ⟨rfl, rfl⟩ := h
    refine w119_10 ⟨fun z => absurd z i01, fun _ => ?_⟩
    rcases ixc (n := 10) (by decide) y with ⟨v, hv, rfl⟩ | hy
    · refine zwp_mono (r77y (by omega) (by omega) (by decide)) (fun o t h => ?_)
      obtain ⟨rfl, rfl⟩ := h
      refine w119_20 ⟨fun z => absurd z i01, fun _ => zwp_mono (r79 hl1.log hw.log hpl hpo hfm (by omega)) (fun o t h => ?_)⟩
      obtain ⟨S2, rfl, rfl, g1, g2⟩ := h
      refine zwp_mono (r119c g2 (hw.con j) hv) (fun o t h => ?_)
      obtain ⟨rfl, rfl⟩ := h
      refine ⟨S2, rfl, rfl, fun f i j h => (g1 f i j (fun z => h (Or.inr z))).trans (f1' f i j h), ?_, lkM_fr (fun f i j h => g1 f i j (fun z => ?_)) hl1⟩
      · rw [g1 1024 0 0 (show ¬ (1024 = 1048 ∨ 1024 = 1049 ∨ 1024 = 1984 ∨ 1024 = 2048) by decide)]
        exact c1
      · have h : f = 1025 ∨ f = 1026 ∨ f = 1036 ∨ f = 1038 ∨ (1043 ≤ f ∧ f ≤ 1047) ∨ (1088 ≤ f ∧ f ≤ 1920) := h
        have z : f = 1048 ∨ f = 1049 ∨ f = 1984 ∨ f = 2048 := z
        omega
    · refine zwp_mono (r77n (out_n (by decide) hy)) (fun o t h => ?_)
      obtain ⟨rfl, rfl⟩ := h
      refine w119_20 ⟨fun _ => ⟨S1, ?_, rfl, f1', c1, hl1⟩, fun z => absurd i00 z⟩
      unfold qS1
      rcases hy with hy | hy
      · rw [if_pos hy]
      · have h0 : ∀ v, v < 10 → ¬ y = nI v := fun v hv e => by
          rw [e] at hy
          exact nI_ge hv (by decide) hy
        have hpos : ¬ y < 0 := fun z => by
          rw [Int32.lt_iff_toInt_lt] at z
          rw [Int32.le_iff_toInt_le, nI_toInt (by decide)] at hy
          have : (0 : Int32).toInt = 0 := rfl
          omega
        have h6 : nI 6 ≤ y := by
          rw [Int32.le_iff_toInt_le, nI_toInt (by decide)] at hy ⊢
          omega
        have hlt := (hw.con j).2.2.1
        have hln := (hw.con j).1
        rw [if_neg hpos, if_neg (by have := h0 0 (by decide); rw [nI_0] at this; exact this), if_neg (h0 1 (by decide)), if_pos h6]
        unfold cTl
        rw [if_pos (Or.inr (far hy _ (by rw [hlt]; exact Nat.le_trans (Nat.sub_le _ _) hln)))]
  · rw [ifx_n hx]
    refine zwp_mono (r112n hm (by omega) (pgs_pos _) hx) (fun o t h => ?_)
    obtain ⟨rfl, rfl⟩ := h
    exact w119_10 ⟨fun _ => ⟨S1, rfl, rfl, f1', c1, hl1⟩, fun z => absurd i00 z⟩
theorem narb0 : vp_nar .byte (nI 0) = nI 0 := by decide
theorem r103 {t : Nat} (ht : t < 4) : zwp 103 (0, zent 103 [.inr (some (16, 0)), .inl (nI t)], [], (S, d)) (fun o u => ∃ S', o = .inl none ∧ u = (S', d) ∧ zfr S S' (fun f _ => f = 2112 ∨ f = 2176) ∧ (∀ j, S' 2112 0 j = if j = t then nI 0 else S 2112 0 j) ∧ ∀ j, S' 2176 0 j = if 40 * t ≤ j ∧ j < 40 * t + 40 then nI 0 else S 2176 0 j) := by
  have key : ∀ (m k : Nat) (S1 : zS), k + m = 40 → zfr S S1 (fun f _ => f = 2112 ∨ f = 2176) → (∀ j, S1 2112 0 j = if j = t then nI 0 else S 2112 0 j) → (∀ j, S1 2176 0 j = if 40 * t ≤ j ∧ j < 40 * t + k then nI 0 else S 2176 0 j) → zwp 103 (9, [some (.inr (some (16, 0))), some (.inl (nI t)), some (.inl (nI k))], [], (S1, d)) (fun o u => ∃ S', o = .inl none ∧ u = (S', d) ∧ zfr S S' (fun f _ => f = 2112 ∨ f = 2176) ∧ (∀ j, S' 2112 0 j = if j = t then nI 0 else S 2112 0 j) ∧ ∀ j, S' 2176 0 j = if 40 * t ≤ j ∧ j < 40 * t + 40 then nI 0 else S 2176 0 j) := by
    intro m
    induction m with
    | zero =>
      intro k S1 hk h1 h2 h3
      have hk : k = 40 := by omega
      subst hk
      exact w103_9 ⟨fun _ => ⟨S1, rfl, rfl, h1, h2, h3⟩, fun h => absurd (Int32.le_refl _) h⟩
    | succ m ih =>
      intro k S1 hk h1 h2 h3
      refine w103_9 ⟨fun h => ?_, fun _ => ⟨40 * t + k, by rw [nI_mul, nI_add], by omega, ?_⟩⟩
      · rw [nI_le_iff (by decide) (by omega)] at h
        omega
      rw [nI_add, narb0]
      refine ih (k + 1) _ (by omega) (fun f i j h => ?_) (fun j => ?_) (fun j => ?_)
      · rw [zu_f _ _ (fun z => h (Or.inr z))]
        exact h1 f i j h
      · rw [zu_f _ _ (by decide)]
        exact h2 j
      · by_cases e : j = 40 * t + k
        · rw [e, zu_self, if_pos (by omega)]
        · rw [zu_j _ _ e, h3 j]
          by_cases e2 : 40 * t ≤ j ∧ j < 40 * t + k
          · rw [if_pos e2, if_pos (by omega)]
          · rw [if_neg e2, if_neg (by omega)]
  refine w103_0 ⟨t, rfl, ht, key 40 0 _ (by omega) (fun f i j h => zu_f _ _ (fun z => h (Or.inl z))) (fun j => ?_) (fun j => ?_)⟩
  · by_cases e : j = t
    · rw [if_pos e, e, zu_self]
    · rw [if_neg e, zu_j _ _ e]
  · rw [zu_f _ _ (by decide), if_neg (by omega)]
end RSH
