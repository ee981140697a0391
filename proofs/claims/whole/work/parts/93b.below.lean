/-! The tree: a split below the root. -/
section TRB
variable {C C' : Nat → aCon} {M : Nat} {pr : Nat → Bool} {lo hi lv up : Nat → Nat}
theorem cut_half {c : aCon} : cCut c = cHalf c 0 := by
  unfold cCut cHalf
  rw [List.drop_zero, List.drop_zero]
theorem tre_below {p par s : Nat} (h : tre C M pr lo hi lv up) (hp : p < M) (p0 : p ≠ 0) (hq : par < M) (hb : (C par).1 = true) (hm : p ∈ (C par).2.1) (h4 : (C p).2.1.length = 4) (hh : hlf C M pr lo hi lv up p s) (hC : ∀ x, C' x = if x = par then cLink s M p (C par) else if x = p then cCut (C p) else if x = M then cHalf (C p) 2 else C x) :
    ∃ lo' hi' lv' up', tre C' (M + 1) pr lo' hi' lv' up' ∧ lo' p = lo p ∧ hi' p = s ∧ lo' M = s ∧ hi' M = hi p ∧ lv' M = lv p ∧ lv' p = lv p := by
  obtain ⟨g1, g2, g3, g4, g5, g6, g7⟩ := hh
  obtain ⟨r1, r2, r3, r4, r5⟩ := h.2.2.1 p hp
  obtain ⟨t1, t2, t3, t4, t5⟩ := h.2.2.1 par hq
  obtain ⟨m1, m2, m3⟩ := chn_mem (t5 hb).2 hm
  have hlv : lv p + 1 = lv par := m1.2.2.1
  have hup : up p = par := m1.2.2.2
  have hne : p ≠ par := fun z => by rw [z] at hlv; omega
  rw [cut_half] at hC
  let lo' : Nat → Nat := fun x => if x = M then s else lo x
  let hi' : Nat → Nat := fun x => if x = M then hi p else if x = p then s else hi x
  let lv' : Nat → Nat := fun x => if x = M then lv p else lv x
  let up' : Nat → Nat := fun x => if x = M then par else if up x = p ∧ s ≤ lo x then M else up x
  have lo1 : ∀ x, x < M → lo' x = lo x := fun x hx => if_neg (by omega)
  have hi1 : ∀ x, x < M → x ≠ p → hi' x = hi x := fun x hx h0 => by
    show (if x = M then hi p else if x = p then s else hi x) = hi x
    rw [if_neg (by omega), if_neg h0]
  have hip : hi' p = s := by
    show (if p = M then hi p else if p = p then s else hi p) = s
    rw [if_neg (by omega), if_pos rfl]
  have lv1 : ∀ x, x < M → lv' x = lv x := fun x hx => if_neg (by omega)
  have up1 : ∀ x, x < M → up x ≠ p → up' x = up x := fun x hx h0 => by
    show (if x = M then par else if up x = p ∧ s ≤ lo x then M else up x) = up x
    rw [if_neg (by omega), if_neg (fun z => h0 z.1)]
  have up2 : ∀ x, x < M → up x = p → up' x = if s ≤ lo x then M else p := fun x hx h0 => by
    show (if x = M then par else if up x = p ∧ s ≤ lo x then M else up x) = _
    rw [if_neg (by omega), h0]
    by_cases e : s ≤ lo x
    · rw [if_pos ⟨rfl, e⟩, if_pos e]
    · rw [if_neg (fun z => e z.2), if_neg e]
  have loM : lo' M = s := if_pos rfl
  have hiM : hi' M = hi p := if_pos rfl
  have lvM : lv' M = lv p := if_pos rfl
  have upM : up' M = par := if_pos rfl
  have upp : up' p = par := by rw [up1 p hp (by rw [hup]; exact Ne.symm hne), hup]
  have Cq : C' par = cLink s M p (C par) := by rw [hC par, if_pos rfl]
  have Cp : C' p = cHalf (C p) 0 := by rw [hC p, if_neg hne, if_pos rfl]
  have CM : C' M = cHalf (C p) 2 := by rw [hC M, if_neg (by omega), if_neg (by omega), if_pos rfl]
  have Cx : ∀ x, x < M → x ≠ par → x ≠ p → C' x = C x := fun x hx h0 h1 => by rw [hC x, if_neg h0, if_neg h1, if_neg (by omega)]
  have b0 : (cHalf (C p) 0).1 = (C p).1 := rfl
  have b2 : (cHalf (C p) 2).1 = (C p).1 := rfl
  have bq : (cLink s M p (C par)).1 = true := hb
  have hql : ∀ x, x ∈ (cLink s M p (C par)).2.1 ↔ x = M ∨ x ∈ (C par).2.1 := fun x => mem_ins
  have hlen : (cLink s M p (C par)).2.1.length = (C par).2.1.length + 1 := lins_len
  -- children elsewhere
  have kid : ∀ q c, q ≠ p → kdR M lv up q c → c ≠ p → (kdR (M + 1) lv' up' q c ∧ lo' c = lo c ∧ hi' c = hi c) ∨ lv' q ≠ lv q := fun q c hqp hR hcp => by
    obtain ⟨k1, k2, k3, k4⟩ := hR
    by_cases e : lv' q = lv q
    · exact Or.inl ⟨⟨by omega, k2, by rw [lv1 c k1, e]; exact k3, by rw [up1 c k1 (by rw [k4]; exact hqp)]; exact k4⟩, lo1 c k1, hi1 c k1 hcp⟩
    · exact Or.inr e
  refine ⟨lo', hi', lv', up', ⟨(lo1 0 (by omega)).trans h.1, (hi1 0 (by omega) (Ne.symm p0)).trans h.2.1, fun q hqM => ?_, ?_⟩, lo1 p hp, hip, loM, hiM, lvM, lv1 p hp⟩
  · by_cases eM : q = M
    · subst eM
      rw [pgc, CM, loM, hiM, lvM, upM, b2, Cq]
      refine ⟨g3, r2, fun _ => ⟨by omega, bq, (hql q).mpr (Or.inl rfl)⟩, fun z => ⟨(r4 z).1, (g4 z).2⟩, fun z => ⟨by rw [half_len h4 (Or.inr rfl)]; exact Nat.le_refl _, ?_⟩⟩
      refine chn_mono (fun c hc hR => ?_) (g5 z).2.1
      obtain ⟨k1, k2, k3, k4⟩ := hR
      have hl := g7 c hc z
      have hcp : c ≠ p := fun z => by
        rw [z] at k3
        omega
      exact ⟨⟨by omega, k2, by rw [lv1 c k1, lvM]; exact k3, by rw [up2 c k1 k4, if_pos hl]⟩, lo1 c k1, hi1 c k1 hcp⟩
    · have hqM : q < M := by omega
      obtain ⟨q1, q2, q3, q4, q5⟩ := h.2.2.1 q hqM
      by_cases ep : q = p
      · subst ep
        rw [pgc, Cp, lo1 q hp, hip, lv1 q hp, upp, b0, Cq]
        refine ⟨g2, by omega, fun _ => ⟨by omega, bq, (hql q).mpr (Or.inr hm)⟩, fun z => ⟨(r4 z).1, (g4 z).1⟩, fun z => ⟨by rw [half_len h4 (Or.inl rfl)]; exact Nat.le_refl _, ?_⟩⟩
        refine chn_mono (fun c hc hR => ?_) (g5 z).1
        obtain ⟨k1, k2, k3, k4⟩ := hR
        have hl := g6 c hc z
        have hcp : c ≠ q := fun z => by
          rw [z] at k3
          omega
        exact ⟨⟨by omega, k2, by rw [lv1 c k1, lv1 q hp]; exact k3, by rw [up2 c k1 k4, if_neg (by omega)]⟩, lo1 c k1, hi1 c k1 hcp⟩
      · -- its parent
        have hpar : q ≠ 0 → up' q < M + 1 ∧ (C' (up' q)).1 = true ∧ q ∈ (C' (up' q)).2.1 := by
          intro h0
          obtain ⟨z1, z2, z3⟩ := q3 h0
          by_cases eu : up q = p
          · rw [eu] at z2 z3
            obtain ⟨y1, y2⟩ := (g5 z2).2.2 q z3
            rw [up2 q hqM eu]
            by_cases el : s ≤ lo q
            · rw [if_pos el, CM]
              exact ⟨by omega, z2, y2 el⟩
            · rw [if_neg el, Cp]
              exact ⟨by omega, z2, y1 (by omega)⟩
          · rw [up1 q hqM eu]
            by_cases er : up q = par
            · rw [er] at z3 ⊢
              rw [Cq]
              exact ⟨by omega, bq, (hql q).mpr (Or.inr z3)⟩
            · rw [Cx _ z1 er eu]
              exact ⟨by omega, z2, z3⟩
        by_cases er : q = par
        · subst er
          rw [pgc, lo1 q hq, hi1 q hq (Ne.symm hne), lv1 q hq]
          refine ⟨q1, q2, hpar, fun z => ?_, fun _ => ?_⟩
          · rw [Cq, bq] at z
            cases z
          · rw [Cq, hlen]
            refine ⟨by have := (q5 hb).1; omega, ?_⟩
            refine chn_ins (lo := lo) (hi := hi) (R := kdR M lv up q) (p := p) (m := M) (by omega) (by omega) (by omega) (fun c hcp hR => ?_) (fun hR => ⟨⟨by omega, p0, by rw [lv1 p hp, lv1 q hq]; exact hlv, upp⟩, ⟨by omega, by omega, by rw [lvM, lv1 q hq]; exact hlv, upM⟩⟩) (lo1 p hp) hip loM hiM (q5 hb).2 hm
            rcases kid q c (Ne.symm hne) hR hcp with z | z
            · exact z
            · exact absurd (lv1 q hq) z
        · rw [pgc, Cx q hqM er ep, lo1 q hqM, hi1 q hqM ep, lv1 q hqM]
          refine ⟨q1, q2, hpar, q4, fun z => ⟨(q5 z).1, ?_⟩⟩
          refine chn_mono (fun c hc hR => ?_) (q5 z).2
          have hcp : c ≠ p := fun e => by
            have := hR.2.2.2
            rw [e, hup] at this
            exact er this.symm
          rcases kid q c ep hR hcp with z | z
          · exact z
          · exact absurd (lv1 q hqM) z
  · rw [sumN]
    have hs := h.2.2.2
    have h1 := sumN_at (f := vw C lo hi) (g := fun x => if x = p then vw C' lo' hi' p else vw C lo hi x) (p := p) (n := M) hp (fun i _ h0 => if_neg h0)
    have h2 := sumN_at (f := fun x => if x = p then vw C' lo' hi' p else vw C lo hi x) (g := vw C' lo' hi') (p := par) (n := M) hq (fun i hi2 h0 => by
      by_cases e : i = p
      · rw [e]
        show _ = if p = p then _ else _
        rw [if_pos rfl]
      · show _ = if i = p then _ else _
        rw [if_neg e]
        unfold vw
        rw [Cx i hi2 h0 e, lo1 i hi2, hi1 i hi2 e])
    rw [if_pos rfl] at h1
    rw [if_neg (Ne.symm hne)] at h2
    have h12 : sumN (vw C' lo' hi') M + vw C lo hi p + vw C lo hi par = sumN (vw C lo hi) M + vw C' lo' hi' p + vw C' lo' hi' par := by omega
    clear h1 h2
    have v1 : vw C' lo' hi' par = vw C lo hi par + 1 := by
      unfold vw
      rw [Cq, bq, hb, if_pos rfl, if_pos rfl, hlen]
    have v2 : vw C' lo' hi' p = if (C p).1 = true then 2 else s - lo p := by
      unfold vw
      rw [Cp, b0, half_len h4 (Or.inl rfl), hip, lo1 p hp]
    have v3 : vw C' lo' hi' M = if (C p).1 = true then 2 else hi p - s := by
      unfold vw
      rw [CM, b2, half_len h4 (Or.inr rfl), hiM, loM]
    have v4 : vw C lo hi p = if (C p).1 = true then 4 else hi p - lo p := by
      unfold vw
      rw [h4]
    rw [v1, v2, v4] at h12
    rw [v3]
    by_cases hbp : (C p).1 = true
    · rw [if_pos hbp, if_pos hbp] at h12
      rw [if_pos hbp]
      omega
    · rw [if_neg hbp, if_neg hbp] at h12
      rw [if_neg hbp]
      omega
end TRB
