/-! The reference: look, entry, childFor. -/
def pord (lg : Nat → aRec) (n : Nat) : Prop := ∀ k, k < n → rK (lg (k + 1)) = 2 → (con lg (rP (lg (k + 1))) k).2.1[lpos (rY (lg (k + 1))) (con lg (rP (lg (k + 1))) k).2.1]? = some (rY (lg (k + 1)))
theorem fmts_mono {lg : Nat → aRec} {a b : Nat} (h : a ≤ b) : fmts lg a ≤ fmts lg b := by
  induction b with
  | zero =>
    have : a = 0 := by omega
    rw [this]
    exact Nat.le_refl _
  | succ b ih =>
    by_cases e : a = b + 1
    · rw [e]
      exact Nat.le_refl _
    · have h1 := ih (by omega)
      have h2 : fmts lg b ≤ fmts lg (b + 1) := by
        rw [show fmts lg (b + 1) = if rK (lg (b + 1)) = 3 then fmts lg b + 1 else fmts lg b from rfl]
        split <;> omega
      exact Nat.le_trans h1 h2
section RK
variable {S : zS} {d n : Nat} {lg : Nat → aRec} {c : aCon}
theorem r80 (hH : mH S n (lg n)) (hB : mB S lg n) (hwr : wrec (lg n) n) (hlg : legal (lg n) c) (hl : mlook S c) (hw : wcon c) (hn1 : 1 ≤ n) (hn : n ≤ 1144) (hf : rK (lg n) = 3 → fmts lg (n - 1) < 100) (ho : rK (lg n) = 2 → c.2.1[lpos (rY (lg n)) c.2.1]? = some (rY (lg n))) : zwp 80 (0, zent 80 [.inr (some (16, 0)), .inl (nI n)], [], (S, d)) (fun o t => ∃ S', o = .inl none ∧ t = (S', d) ∧ zfr S S' plk ∧ mlook S' (app (lg n) c)) := by
  have hn3 : n < 1300 := by omega
  have hK := hH.1
  have hY64 := hwr.2.2.2.2.2.1
  unfold legal at hlg
  unfold mB at hB
  unfold app
  have h81 : ∀ {Q : zO → zT → Prop}, rK (lg n) ≠ 3 → rK (lg n) ≠ 4 → rK (lg n) ≠ 5 → rK (lg n) < 8 → zwp 81 (0, zent 81 [.inr (some (16, 0)), .inl (nI n)], [], (S, d)) (fun o t => ∃ S', o = .inl none ∧ t = (S', d) ∧ Q (.inl none) (S', d)) → zwp 80 (0, zent 80 [.inr (some (16, 0)), .inl (nI n)], [], (S, d)) Q := by
    intro Q q1 q2 q3 q4 h
    refine w80_0 ⟨n, rfl, hn3, fun z => ?_, fun _ => ⟨n, rfl, hn3, fun z => ?_, fun _ => ⟨n, rfl, hn3, fun z => ?_, fun _ => zwp_mono h (fun o t h => ?_)⟩⟩⟩
    · rw [hK, nI_eq_iff (by omega) (by decide)] at z
      exact absurd z q1
    · rw [hK, nI_eq_iff (by omega) (by decide)] at z
      exact absurd z q2
    · rw [hK, nI_eq_iff (by omega) (by decide)] at z
      exact absurd z q3
    · obtain ⟨S', rfl, rfl, hq⟩ := h
      exact w80_243 hq
  have hk := hwr.1
  have hkk : rK (lg n) = 0 ∨ rK (lg n) = 1 ∨ rK (lg n) = 2 ∨ rK (lg n) = 3 ∨ rK (lg n) = 4 ∨ rK (lg n) = 5 ∨ rK (lg n) = 6 ∨ rK (lg n) = 7 := by omega
  rcases hkk with e | e | e | e | e | e | e | e
  · rw [e] at hlg
    exact hlg.elim
  · rw [e] at hlg hB hK ⊢
    refine h81 (by omega) (by omega) (by omega) (by omega) (zwp_mono (r81S (v := rV (lg n)) hK hl hw hlg.1 hB.1 hB.2.1 hY64 hn3 hlg.2) (fun o t h => ?_))
    obtain ⟨S', rfl, rfl, g1, g2⟩ := h
    exact ⟨S', rfl, rfl, S', rfl, rfl, g1, g2⟩
  · rw [e] at hlg hB hK ⊢
    refine h81 (by omega) (by omega) (by omega) (by omega) (zwp_mono (r81O hK hl hw hlg.1 hB.1 hY64 hn3 (ho e)) (fun o t h => ?_))
    obtain ⟨S', rfl, rfl, g1, g2⟩ := h
    exact ⟨S', rfl, rfl, S', rfl, rfl, g1, g2⟩
  · rw [e] at hlg hB hK ⊢
    exact r80F hK hB.1 (hf e) hB.2 hlg.1 hn3
  · rw [e] at hlg hK ⊢
    exact r80C hK hl hlg hn3
  · rw [e] at hlg hB hK ⊢
    have hE : rE (lg n) < 64 := hw.2.1 _ hlg.2.1
    exact r80L hK hB.1 hB.2.1 hB.2.2 hl hw hlg.1 hE hlg.2.1 hlg.2.2.1 hn3
  · rw [e] at hlg
    exact hlg.elim
  · rw [e] at hlg
    exact hlg.elim
theorem mH_congr {S' : zS} {r : aRec} (h : ∀ f j, (f = 1088 ∨ f = 1152 ∨ f = 1216 ∨ f = 1536 ∨ f = 1600) → j = n → S' f 0 j = S f 0 j) (hl : mH S n r) : mH S' n r := by
  obtain ⟨a1, a2, a3, a4, x, a5, a6, a7⟩ := hl
  exact ⟨by rw [h 1088 n (by simp) rfl]; exact a1, fun z => by rw [h 1152 n (by simp) rfl]; exact a2 z, by rw [h 1216 n (by simp) rfl]; exact a3, by rw [h 1536 n (by simp) rfl]; exact a4, x, by rw [h 1600 n (by simp) rfl]; exact a5, a6, a7⟩
theorem mfm_congr {S' : zS} {f : Nat} (h : ∀ j, 10 * f ≤ j → j < 10 * f + 10 → S' 1664 0 j = S 1664 0 j) (hlen : c.2.1.length ≤ 4 ∧ c.2.2.length ≤ 4) (hl : mfm S f c) : mfm S' f c := by
  obtain ⟨a1, a2, a3, a4⟩ := hl
  refine ⟨by rw [h _ (by omega) (by omega)]; exact a1, by rw [h _ (by omega) (by omega)]; exact a2, fun i x hi => ?_, fun i x hi => ?_⟩
  · have := (List.getElem?_eq_some_iff.mp hi).1
    rw [h _ (by omega) (by omega)]
    exact a3 i x hi
  · have := (List.getElem?_eq_some_iff.mp hi).1
    rw [h _ (by omega) (by omega)]
    exact a4 i x hi
theorem mB_same {S' : zS} (h : ∀ f j, (f = 1280 ∨ f = 1344 ∨ f = 1408 ∨ f = 1472 ∨ f = 1664) → S' f 0 j = S f 0 j) (hl : mB S lg n) : mB S' lg n := by
  unfold mB at hl ⊢
  split at hl
  · exact ⟨by rw [h 1280 _ (by simp)]; exact hl.1, by rw [h 1344 _ (by simp)]; exact hl.2.1, by rw [h 1408 _ (by simp)]; exact hl.2.2.1, by rw [h 1472 _ (by simp)]; exact hl.2.2.2⟩
  · exact ⟨by rw [h 1280 _ (by simp)]; exact hl.1, by rw [h 1408 _ (by simp)]; exact hl.2.1, by rw [h 1472 _ (by simp)]; exact hl.2.2⟩
  · obtain ⟨b1, a1, a2, a3, a4⟩ := hl
    exact ⟨by rw [h 1344 _ (by simp)]; exact b1, by rw [h 1664 _ (by simp)]; exact a1, by rw [h 1664 _ (by simp)]; exact a2, fun i x hi => by rw [h 1664 _ (by simp)]; exact a3 i x hi, fun i x hi => by rw [h 1664 _ (by simp)]; exact a4 i x hi⟩
  · exact ⟨by rw [h 1280 _ (by simp)]; exact hl.1, by rw [h 1344 _ (by simp)]; exact hl.2.1, by rw [h 1472 _ (by simp)]; exact hl.2.2⟩
  · trivial
theorem r79 {fo p : Nat} (hl : mlog S lg n fo) (hw : wlog lg n) (hpl : pleg lg n) (hpo : pord lg n) (hfm : fmts lg n ≤ 100) (hp : p < 100) : zwp 79 (0, zent 79 [.inr (some (16, 0)), .inl (nI p)], [], (S, d)) (fun o t => ∃ S', o = .inl none ∧ t = (S', d) ∧ zfr S S' plk ∧ mlook S' (con lg p n)) := by
  have hn := hw.1
  obtain ⟨l1, l2, l3, l4⟩ := hl
  have key : ∀ (m k : Nat) (S1 : zS), k + m = n → zfr S S1 plk → mlook S1 (con lg p k) → zwp 79 (12, [some (.inr (some (16, 0))), some (.inl (nI p)), some (.inl (nI (k + 1)))], [], (S1, d)) (fun o t => ∃ S', o = .inl none ∧ t = (S', d) ∧ zfr S S' plk ∧ mlook S' (con lg p n)) := by
    intro m
    induction m with
    | zero =>
      intro k S1 hk hfr hm
      have hk : k = n := by omega
      subst hk
      have hfr' : ∀ f i j, ¬ (f = 1048 ∨ f = 1049 ∨ f = 1984 ∨ f = 2048) → S1 f i j = S f i j := fun f i j h => hfr f i j h
      refine w79_12 ⟨fun _ => ⟨S1, rfl, rfl, hfr, hm⟩, fun h => ?_⟩
      rw [hfr' _ _ _ (by decide), l1, nI_lt_iff (by omega) (by omega)] at h
      omega
    | succ m ih =>
      intro k S1 hk hfr hm
      have hfr' : ∀ f i j, ¬ (f = 1048 ∨ f = 1049 ∨ f = 1984 ∨ f = 2048) → S1 f i j = S f i j := fun f i j h => hfr f i j h
      obtain ⟨hH, hB⟩ := l4 (k + 1) (by omega) (by omega)
      have hwr := hw.2 (k + 1) (by omega) (by omega)
      have nxt : ∀ S2 : zS, zfr S S2 plk → mlook S2 (con lg p (k + 1)) → zwp 79 (46, [some (.inr (some (16, 0))), some (.inl (nI p)), some (.inl (nI (k + 1)))], [], (S2, d)) (fun o t => ∃ S', o = .inl none ∧ t = (S', d) ∧ zfr S S' plk ∧ mlook S' (con lg p n)) := by
        intro S2 h1 h2
        refine w79_46 ?_
        rw [nI_add]
        exact ih (k + 1) S2 (by omega) h1 h2
      refine w79_12 ⟨fun h => ?_, fun _ => ⟨k + 1, rfl, by omega, fun h6 => ?_, fun h6 => ⟨k + 1, rfl, by omega, fun hpg => ?_, fun hpg => ?_⟩⟩⟩
      · rw [hfr' _ _ _ (by decide), l1, nI_lt_iff (by omega) (by omega)] at h
        omega
      · rw [hfr' _ _ _ (by decide), hH.1, nI_le_iff (by decide) (by have := hwr.1; omega)] at h6
        refine nxt S1 hfr ?_
        rw [con, isPg_k (by omega), if_neg (by decide)]
        exact hm
      · rw [hfr' _ _ _ (by decide), hH.1, nI_le_iff (by decide) (by have := hwr.1; omega)] at h6
        have h6 : rK (lg (k + 1)) < 6 := by omega
        have hP := hwr.2.1 h6
        rw [hfr' _ _ _ (by decide), hH.2.1 h6, nI_eq_iff (by omega) (by omega)] at hpg
        have hleg := (hpl k (by omega)).2 h6
        rw [hpg] at hleg
        refine zwp_mono (r80 (mH_congr (fun f j hf _ => hfr' f 0 j (by omega)) hH) (mB_same (fun f j hf => hfr' f 0 j (by omega)) hB) hwr hleg hm (pleg_con hpl p k (by omega)) (by omega) (by omega) (fun e3 => ?_) (fun e2 => ?_)) (fun o t h => ?_)
        · have h1 : fmts lg (k + 1) ≤ fmts lg n := fmts_mono (by omega)
          rw [fmts, if_pos e3] at h1
          show fmts lg k < 100
          omega
        · have := hpo k (by omega) e2
          rw [hpg] at this
          exact this
        · obtain ⟨S2, rfl, rfl, g1, g2⟩ := h
          refine nxt S2 (fun f i j h => (g1 f i j h).trans (hfr f i j h)) ?_
          rw [con, isPg_t h6 hpg, if_pos rfl]
          exact g2
      · rw [hfr' _ _ _ (by decide), hH.1, nI_le_iff (by decide) (by have := hwr.1; omega)] at h6
        have h6 : rK (lg (k + 1)) < 6 := by omega
        have hP := hwr.2.1 h6
        rw [hfr' _ _ _ (by decide), hH.2.1 h6, nI_eq_iff (by omega) (by omega)] at hpg
        refine nxt S1 hfr ?_
        rw [con, isPg_p hpg, if_neg (by decide)]
        exact hm
  refine w79_0 (key n 0 _ (by omega) (fun f i j h => ?_) ⟨?_, ?_, fun i x hx => ?_, fun i x hx => ?_⟩)
  · rw [zu_f _ _ (fun z => h (by omega)), zu_f _ _ (fun z => h (by omega))]
  · rw [zu_f _ _ (by decide), zu_self]
    rfl
  · rw [zu_self]
    rfl
  · simp [con] at hx
  · simp [con] at hx
theorem r82 {k : Nat} (hl : mlook S c) (hw : wcon c) (hk : k < 64) : zwp 82 (0, zent 82 [.inr (some (16, 0)), .inl (nI k)], [], (S, d)) (fun o t => o = .inl (some (.inl (zix k c.2.1))) ∧ t = (S, d)) := by
  have hn := hw.1
  have key : ∀ m i : Nat, i + m = c.2.1.length → (∀ j, j < i → c.2.1[j]? ≠ some k) → zwp 82 (2, [some (.inr (some (16, 0))), some (.inl (nI k)), some (.inl (nI i))], [], (S, d)) (fun o t => o = .inl (some (.inl (zix k c.2.1))) ∧ t = (S, d)) := by
    intro m
    induction m with
    | zero =>
      intro i hi hj
      refine w82_2 ⟨fun _ => ?_, fun hlt => ?_⟩
      · refine ⟨?_, rfl⟩
        unfold zix
        rw [if_neg (lidx_none (fun j hjl => hj j (by omega)))]
      · rw [hl.2.1, nI_le_iff (by omega) (by omega)] at hlt
        omega
    | succ m ih =>
      intro i hi hj
      obtain ⟨x, hx⟩ := lget (l := c.2.1) (i := i) (by omega)
      refine w82_2 ⟨fun hge => ?_, fun _ => ⟨i, rfl, by omega, fun he => ?_, fun hne => ?_⟩⟩
      · rw [hl.2.1, nI_le_iff (by omega) (by omega)] at hge
        omega
      · rw [hl.2.2.1 i x hx, nI_eq_iff (by have := hw.lt hx; omega) (by omega)] at he
        subst he
        refine ⟨?_, rfl⟩
        unfold zix
        rw [if_pos (List.mem_of_getElem? hx), lidx_at hx hj]
      · rw [hl.2.2.1 i x hx, nI_eq_iff (by have := hw.lt hx; omega) (by omega)] at hne
        rw [nI_add]
        refine ih (i + 1) (by omega) (fun j hji => ?_)
        by_cases e : j = i
        · subst e
          rw [hx]
          exact fun z => hne (Option.some.inj z)
        · exact hj j (by omega)
  exact w82_0 (key c.2.1.length 0 (by omega) (fun j hj => by omega))
end RK
section RC
variable {S : zS} {d : Nat} {c : aCon}
theorem r92 {k : Nat} (hl : mlook S c) (hw : wcon c) (hb : c.1 = true) : zwp 92 (0, zent 92 [.inr (some (16, 0)), .inl (nI k)], [], (S, d)) (fun o t => o = .inl (some (.inl (nI (cChild k c)))) ∧ t = (S, d)) := by
  have hn := hw.1
  have h2 : c.2.2.length = c.2.1.length - 1 := by have := hw.2.2.1; rw [hb] at this; simpa using this
  have h3 := hw.2.2.2 hb
  have fin : ∀ i, lsep (nI k) c.2.2 = i → S 1984 0 i = nI (cChild k c) := by
    intro i hi
    have := cChild_get (k := k) hw hb
    rw [hi] at this
    exact hl.2.2.1 _ _ this
  have key : ∀ n i : Nat, i + n = c.2.2.length → (∀ j x, j < i → c.2.2[j]? = some x → ¬ nI k < x) → zwp 92 (2, [some (.inr (some (16, 0))), some (.inl (nI k)), some (.inl (nI i))], [], (S, d)) (fun o t => o = .inl (some (.inl (nI (cChild k c)))) ∧ t = (S, d)) := by
    intro n
    induction n with
    | zero =>
      intro i hi hj
      refine w92_2 ⟨fun _ => ⟨i, rfl, by omega, ?_, rfl⟩, fun hlt => ?_⟩
      · rw [fin i (lsep_at (by omega) hj (fun x hx => by have := (List.getElem?_eq_some_iff.mp hx).1; omega))]
      · rw [hl.2.1, nI_add, nI_le_iff (by omega) (by omega)] at hlt
        omega
    | succ n ih =>
      intro i hi hj
      obtain ⟨x, hx⟩ := lget (l := c.2.2) (i := i) (by omega)
      refine w92_2 ⟨fun hge => ?_, fun _ => ⟨i, rfl, by omega, fun hlt => ⟨i, rfl, by omega, ?_, rfl⟩, fun hnlt => ?_⟩⟩
      · rw [hl.2.1, nI_add, nI_le_iff (by omega) (by omega)] at hge
        omega
      · rw [hl.2.2.2 i x hx] at hlt
        rw [fin i (lsep_at (by omega) hj (fun y hy => by rw [hx] at hy; cases hy; exact hlt))]
      · rw [hl.2.2.2 i x hx] at hnlt
        rw [nI_add]
        refine ih (i + 1) (by omega) (fun j y hj2 hy => ?_)
        by_cases e : j = i
        · subst e
          rw [hx] at hy
          cases hy
          exact hnlt
        · exact hj j y (by omega) hy
  exact w92_0 (key c.2.2.length 0 (by omega) (fun j x hj => by omega))
end RC
