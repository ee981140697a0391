/-! PageKeeper.goDownSplitting: the way down, full pages split. -/
section GD
variable {Q : zO → zT → Prop} {S0 : zS} {key : Nat}
theorem c29S2 {S2 : zS} {d2 f par p x : Nat} {B : aSt} {n3 : Nat} (hn3 : gN B = n3) (hl2 : lkC S2 d2 n3 B) (hw : wA B) (hx : x < 40) (hz2 : zkp S0 S2)
    (aft : ∀ (S3 : zS), lkS S3 d2 (aFix B x) → zkp S0 S3 → zwp 29 (60, [some (.inr (some (0, 0))), some (.inl (nI key)), some (.inl (nI par)), some (.inl (nI x)), some (.inl (nI f))], [], (S3, d2)) Q) :
    zwp 29 (54, [some (.inr (some (0, 0))), some (.inl (nI key)), some (.inl (nI par)), some (.inl (nI p)), some (.inl (nI f))], [.inl (nI x)], (S2, d2)) Q := by
  refine w29_54 (zwp_mono (c33 hl2 hw hx) (fun o t h => ?_))
  obtain ⟨S3, rfl, rfl, kk3, z3⟩ := h
  exact aft S3 ⟨n3, by rw [log_fix.2, hn3]; exact Nat.le_refl _, kk3⟩ (hz2.tr z3)
theorem c29U {S2 : zS} {d2 f par p y : Nat} {B : aSt} {x : aSt × Nat} {n3 : Nat} (hx : x = (aFix B y, y)) (hn3 : gN B = n3) (hl2 : lkC S2 d2 n3 B) (hw : wA B) (hy : y < 40) (hz2 : zkp S0 S2)
    (aft : ∀ (S2 : zS) (d2 : Nat), lkS S2 d2 x.1 → zkp S0 S2 → zwp 29 (60, [some (.inr (some (0, 0))), some (.inl (nI key)), some (.inl (nI par)), some (.inl (nI x.2)), some (.inl (nI f))], [], (S2, d2)) Q) :
    zwp 29 (54, [some (.inr (some (0, 0))), some (.inl (nI key)), some (.inl (nI par)), some (.inl (nI p)), some (.inl (nI f))], [.inl (nI y)], (S2, d2)) Q := by
  subst hx
  exact c29S2 hn3 hl2 hw hy hz2 (fun S3 h1 h2 => aft S3 d2 h1 h2)
theorem c29T {S1 : zS} {d sl f par p : Nat} {A1 : aSt} {x : aSt × Nat} (kk1 : lkC S1 d sl A1) (hsl : sl ≤ gN A1) (hw1 : wA A1) (k1 : p < 40) (k3 : (gC A1 p).2.1.length = 4 → okSp A1 par p) (e1 : (gC A1 p).2.1.length = 4 → x = (aFix (aSplit key A1 par p).1 (aSplit key A1 par p).2, (aSplit key A1 par p).2)) (e2 : ¬ (gC A1 p).2.1.length = 4 → x = (A1, p)) (hz : zkp S0 S1)
    (aft : ∀ (S2 : zS) (d2 : Nat), lkS S2 d2 x.1 → zkp S0 S2 → zwp 29 (60, [some (.inr (some (0, 0))), some (.inl (nI key)), some (.inl (nI par)), some (.inl (nI x.2)), some (.inl (nI f))], [], (S2, d2)) Q) :
    zwp 29 (19, [some (.inr (some (0, 0))), some (.inl (nI key)), some (.inl (nI par)), some (.inl (nI p)), some (.inl (nI f))], [], (S1, d)) Q := by
  have hcon1 := kk1.con k1
  have hwl := zlt (hw1.con p).1 (by decide)
  have hp31 : p < 2 ^ 31 := zlt (Nat.le_of_lt k1) (by decide)
  refine w29_19 ⟨p, rfl, k1, fun h4 => ?_, fun h4 => ?_⟩
  · rw [hcon1.2.1, nI_eq_iff hwl (by decide)] at h4
    have hsp := k3 h4
    have ex := e1 h4
    obtain ⟨ws1, ws2⟩ := wA_split (key := key) hw1 h4 hsp
    obtain ⟨o1, o2, o3⟩ := hsp
    refine ⟨fun h0 => ?_, fun h0 => ?_⟩
    · rw [← nI_0, nI_eq_iff hp31 (by decide)] at h0
      refine zwp_mono (c30 (key := key) kk1 hw1 o1 (h0 ▸ h4) (o2 h0)) (fun o t h => ?_)
      obtain ⟨S2, d2, rfl, rfl, kk2, z2⟩ := h
      have e3 : aSplit key A1 par p = (aSpR A1, if cMid (gC A1 0) ≤ nI key then gM A1 + 1 else gM A1) := by
        unfold aSplit
        rw [if_pos h0]
      rw [e3] at ex ws1 ws2
      dsimp only at ex ws1 ws2
      exact w29_44 (c29U ex log_spR kk2 ws1 ws2 (hz.tr z2) aft)
    · rw [← nI_0, nI_eq_iff hp31 (by decide)] at h0
      obtain ⟨p1, p2, p3, p4, p5, p6, p7, p8, p9⟩ := o3 h0
      refine zwp_mono (c31 (key := key) (par := par) (f := p) kk1 hw1 o1 h4 p1 p2 p3 p4 p5 p6 p7 p8 p9) (fun o t h => ?_)
      obtain ⟨S2, d2, rfl, rfl, kk2, z2⟩ := h
      have e3 : aSplit key A1 par p = (aSpB A1 par p (cSep (gC A1 p)), if cMid (gC A1 p) ≤ nI key then gM A1 else p) := by
        unfold aSplit
        rw [if_neg h0]
      rw [e3] at ex ws1 ws2
      dsimp only at ex ws1 ws2
      rw [← p6]
      exact c29U ex log_spB kk2 ws1 ws2 (hz.tr z2) aft
  · rw [hcon1.2.1, nI_eq_iff hwl (by decide)] at h4
    have ex := e2 h4
    subst ex
    exact aft S1 d ⟨sl, hsl, kk1⟩ hz
theorem aStep_e {A : aSt} {par p : Nat} : ((gC (aFix A p) p).2.1.length = 4 → aStep key A par p = (aFix (aSplit key (aFix A p) par p).1 (aSplit key (aFix A p) par p).2, (aSplit key (aFix A p) par p).2)) ∧ (¬ (gC (aFix A p) p).2.1.length = 4 → aStep key A par p = (aFix A p, p)) := by
  unfold aStep
  exact ⟨fun h => by rw [if_pos h], fun h => by rw [if_neg h]⟩
theorem c29L : ∀ (f : Nat) (A : aSt) (par p : Nat) (S : zS) (d : Nat), f ≤ 40 → lkS S d A → wA A → okS key f A par p → zkp S0 S → (∀ (S' : zS) (d' : Nat), lkS S' d' (aDnS key f A par p).1 → zkp S0 S' → Q (.inl (some (.inl (nI (aDnS key f A par p).2)))) (S', d')) → zwp 29 (7, [some (.inr (some (0, 0))), some (.inl (nI key)), some (.inl (nI par)), some (.inl (nI p)), some (.inl (nI (40 - f)))], [], (S, d)) Q
  | 0, A, par, p, S, d, hf, hl, hw, hk, hz, hQ => w29_7 ⟨fun _ => hQ S d hl hz, fun hn => absurd (by rw [nI_le_iff (by omega) (by omega)]; omega) hn⟩
  | f + 1, A, par, p, S, d, hf, hl, hw, hk, hz, hQ => by
    have hf1 : f ≤ 40 := by omega
    have hf2 : 40 - f = 40 - (f + 1) + 1 := by omega
    have hf3 : 40 - (f + 1) < 2 ^ 31 := by omega
    have hf4 : ¬ 40 ≤ 40 - (f + 1) := by omega
    obtain ⟨sl, hsl, hlC⟩ := hl
    obtain ⟨k1, k2, k3, k4, k5, k6⟩ := hk
    have ea := @aStep_e key A par p
    have hD : aDnS key (f + 1) A par p = if (gC (aStep key A par p).1 (aStep key A par p).2).1 = true then aDnS key f (aStep key A par p).1 (aStep key A par p).2 (cChild key (gC (aStep key A par p).1 (aStep key A par p).2)) else aStep key A par p := rfl
    rw [hD] at hQ
    generalize aStep key A par p = x at k4 k5 k6 ea hQ
    refine w29_7 ⟨fun hge => ?_, fun _ => zwp_mono (c33 (p := p) hlC hw k1) (fun o t h => ?_)⟩
    · rw [nI_le_iff (by decide) hf3] at hge
      exact absurd hge hf4
    obtain ⟨S1, rfl, rfl, kk1, z1⟩ := h
    have hw1 := wA_fix (p := p) hw k1
    have hsl1 : sl ≤ gN (aFix A p) := by
      rw [log_fix.2]
      exact hsl
    generalize aFix A p = A1 at kk1 hw1 hsl1 k3 ea
    refine c29T (x := x) kk1 hsl1 hw1 k1 k3 ea.1 ea.2 (hz.tr z1) fun S2 d2 hl2 hz2 => ?_
    obtain ⟨sl2, hsl2, hlC2⟩ := id hl2
    have hcon := hlC2.con k5
    refine w29_60 ⟨_, rfl, k5, fun h0 => ?_, fun h0 => ⟨_, rfl, k5, ?_⟩⟩
    · rw [hcon.1, b2i_0] at h0
      rw [if_neg (by rw [h0]; decide)] at hQ
      exact hQ S2 d2 hl2 hz2
    · rw [hcon.1, b2i_0] at h0
      have hb : (gC x.1 x.2).1 = true := by
        cases hb : (gC x.1 x.2).1 with
        | true => rfl
        | false => exact absurd hb h0
      rw [if_pos hb] at hQ
      refine zwp_mono (c69 hcon (k4.con _) hb) (fun o t h => ?_)
      obtain ⟨rfl, rfl⟩ := h
      refine w29_93 ?_
      rw [nI_add, ← hf2]
      exact c29L f x.1 x.2 (cChild key (gC x.1 x.2)) S2 d2 hf1 hl2 k4 (k6 hb) hz2 hQ
end GD
theorem c29 {S : zS} {d key : Nat} {A : aSt} (hl : lkS S d A) (hw : wA A) (ho : okS key 40 A 0 0) : zwp 29 (0, zent 29 [.inr (some (0, 0)), .inl (nI key)], [], (S, d)) (fun o t => ∃ S' d', o = .inl (some (.inl (nI (aDnS key 40 A 0 0).2))) ∧ t = (S', d') ∧ lkS S' d' (aDnS key 40 A 0 0).1 ∧ zkp S S') :=
  w29_0 (c29L 40 A 0 0 S d (Nat.le_refl _) hl hw ho (zkp.rf S) fun S' d' h1 h2 => ⟨S', d', rfl, rfl, h1, h2⟩)
