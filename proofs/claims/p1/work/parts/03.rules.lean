/-! Rules of zwp: what a run of the small machine ends in. -/
theorem zrun_s (n m : Nat) (c : zC) : zrun (n + 1) m c = match zone m c with
    | none => none
    | some (.inl (b, c')) => if b = true then zrun n m c' else none
    | some (.inr (.inl o)) => some o
    | some (.inr (.inr (.inl (b, p1, p2, st')))) => if b = true then zrun n m (p1, c.2.1, st', c.2.2.2) else zrun n m (p2, c.2.1, st', c.2.2.2)
    | some (.inr (.inr (.inr (m', as, rest, pc')))) => match zrun n m' (0, zent m' as, [], c.2.2.2) with
      | none => none
      | some (.inl v, t') => zrun n m (pc', c.2.1, zpush v rest, t')
      | some (.inr x, t') => some (.inr x, t') := rfl
theorem zrun_up : ∀ (n m : Nat) (c : zC) (r : zO × zT), zrun n m c = some r → zrun (n + 1) m c = some r
  | 0, _, _, _, h => by cases h
  | n + 1, m, c, r, h => by
    rw [zrun_s] at h ⊢
    cases hz : zone m c with
    | none => rw [hz] at h; cases h
    | some z =>
      rw [hz] at h
      rcases z with ⟨b, c'⟩ | o | ⟨b, p1, p2, st'⟩ | ⟨m', as, rest, pc'⟩
      · dsimp only at h ⊢
        cases b with
        | false => cases h
        | true => exact zrun_up n m c' r h
      · exact h
      · dsimp only at h ⊢
        cases b with
        | false => exact zrun_up n m _ r h
        | true => exact zrun_up n m _ r h
      · dsimp only at h ⊢
        cases hc : zrun n m' (0, zent m' as, [], c.2.2.2) with
        | none => rw [hc] at h; cases h
        | some q =>
          rw [hc] at h
          rw [zrun_up n m' _ q hc]
          obtain ⟨o, t'⟩ := q
          cases o with
          | inl v => exact zrun_up n m _ r h
          | inr x => exact h
theorem zrun_le {n n' m : Nat} {c : zC} {r : zO × zT} (h : zrun n m c = some r) (hn : n ≤ n') : zrun n' m c = some r := by
  induction hn with
  | refl => exact h
  | step _ ih => exact zrun_up _ _ _ _ ih
theorem zrun_det {n n' m : Nat} {c : zC} {r r' : zO × zT} (h : zrun n m c = some r) (h' : zrun n' m c = some r') : r = r' := by
  have a := zrun_le h (Nat.le_max_left n n')
  have b := zrun_le h' (Nat.le_max_right n n')
  rw [a] at b
  exact Option.some.inj b
theorem zwp_mono {m : Nat} {c : zC} {Q Q' : zO → zT → Prop} (h : zwp m c Q) (hq : ∀ o t, Q o t → Q' o t) : zwp m c Q' := by
  obtain ⟨n, o, t, h1, h2⟩ := h
  exact ⟨n, o, t, h1, hq o t h2⟩
theorem zwp_grd {m : Nat} {c c' : zC} {b : Bool} {Q : zO → zT → Prop} (hz : zone m c = some (.inl (b, c'))) (hb : b = true) (h : zwp m c' Q) : zwp m c Q := by
  obtain ⟨n, o, t, h1, h2⟩ := h
  refine ⟨n + 1, o, t, ?_, h2⟩
  rw [zrun_s, hz]
  subst hb
  exact h1
theorem zwp_blk {m : Nat} {Q : zO → zT → Prop} : ∀ (k : Nat) {c c' : zC}, zblk k m c = some c' → zwp m c' Q → zwp m c Q
  | 0, c, c', hk, h => by
    cases hk
    exact h
  | k + 1, c, c', hk, h => by
    unfold zblk at hk
    split at hk
    · rename_i c1 hz
      exact zwp_grd hz rfl (zwp_blk k hk h)
    · cases hk
theorem zwp_end {m : Nat} {c : zC} {o : zO} {t : zT} {Q : zO → zT → Prop} (hz : zone m c = some (.inr (.inl (o, t)))) (h : Q o t) : zwp m c Q := ⟨1, o, t, by rw [zrun_s, hz], h⟩
theorem zwp_br {m : Nat} {c : zC} {b : Bool} {p1 p2 : Nat} {st' : List zV} {Q : zO → zT → Prop} (hz : zone m c = some (.inr (.inr (.inl (b, p1, p2, st')))))
    (ht : b = true → zwp m (p1, c.2.1, st', c.2.2.2) Q) (hf : b = false → zwp m (p2, c.2.1, st', c.2.2.2) Q) : zwp m c Q := by
  cases b with
  | true =>
    obtain ⟨n, o, t, h1, h2⟩ := ht rfl
    exact ⟨n + 1, o, t, by rw [zrun_s, hz]; exact h1, h2⟩
  | false =>
    obtain ⟨n, o, t, h1, h2⟩ := hf rfl
    exact ⟨n + 1, o, t, by rw [zrun_s, hz]; exact h1, h2⟩
-- what stands behind a call
def zaf (m pc : Nat) (ls : List (Option zV)) (rest : List zV) (Q : zO → zT → Prop) (o : zO) (t : zT) : Prop := match o with
  | .inl v => zwp m (pc, ls, zpush v rest, t) Q
  | .inr x => Q (.inr x) t
theorem zwp_call {m m' pc' : Nat} {c : zC} {as rest : List zV} {Q : zO → zT → Prop} (hz : zone m c = some (.inr (.inr (.inr (m', as, rest, pc')))))
    (h : zwp m' (0, zent m' as, [], c.2.2.2) (zaf m pc' c.2.1 rest Q)) : zwp m c Q := by
  obtain ⟨n, o, t, h1, h2⟩ := h
  cases o with
  | inl v =>
    obtain ⟨n2, o2, t2, h3, h4⟩ := h2
    refine ⟨max n n2 + 1, o2, t2, ?_, h4⟩
    rw [zrun_s, hz]
    dsimp only
    rw [zrun_le h1 (Nat.le_max_left n n2)]
    exact zrun_le h3 (Nat.le_max_right n n2)
  | inr x =>
    refine ⟨n + 1, .inr x, t, ?_, h2⟩
    rw [zrun_s, hz]
    dsimp only
    rw [h1]
-- array accesses, the index a number
theorem zin_nI {j n : Nat} (hj : j < n) (hn : n < 2 ^ 31) : zin (nI j) n = true := by
  unfold zin
  exact decide_eq_true (nI_in hj hn)
theorem zwp_ld {m n j cd i pc' : Nat} {c : zC} {ls : List (Option zV)} {r : List zV} {t : zT} {Q : zO → zT → Prop} (hz : zone m c = some (.inl (zin (nI j) n, pc', ls, .inl (t.1 cd i (nI j).toNatClampNeg) :: r, t))) (hj : j < n) (hn : n < 2 ^ 31) (h : zwp m (pc', ls, .inl (t.1 cd i j) :: r, t) Q) : zwp m c Q := by
  refine zwp_grd hz (zin_nI hj hn) ?_
  rw [nI_clamp (Nat.lt_trans hj hn)]
  exact h
theorem zwp_st {m n j cd i pc' : Nat} {v : Int32} {c : zC} {ls : List (Option zV)} {r : List zV} {t : zT} {Q : zO → zT → Prop} (hz : zone m c = some (.inl (zin (nI j) n, pc', ls, r, (zu t.1 cd i (nI j).toNatClampNeg v, t.2)))) (hj : j < n) (hn : n < 2 ^ 31) (h : zwp m (pc', ls, r, (zu t.1 cd i j v, t.2)) Q) : zwp m c Q := by
  refine zwp_grd hz (zin_nI hj hn) ?_
  rw [nI_clamp (Nat.lt_trans hj hn)]
  exact h
theorem zwp_ald {m n j k pc' : Nat} {c : zC} {ls : List (Option zV)} {r : List zV} {t : zT} {Q : zO → zT → Prop} (hz : zone m c = some (.inl (zin (nI j) n, pc', ls, .inr (zel t.2 k (nI j).toNatClampNeg) :: r, t))) (hj : j < n) (hn : n < 2 ^ 31) (hk : zok t.2 k j = true) (h : zwp m (pc', ls, .inr (some (k, j)) :: r, t) Q) : zwp m c Q := by
  refine zwp_grd hz (zin_nI hj hn) ?_
  rw [nI_clamp (Nat.lt_trans hj hn)]
  unfold zel
  rw [if_pos hk]
  exact h
theorem zwp_ald0 {m n j k pc' : Nat} {c : zC} {ls : List (Option zV)} {r : List zV} {t : zT} {Q : zO → zT → Prop} (hz : zone m c = some (.inl (zin (nI j) n, pc', ls, .inr (zel t.2 k (nI j).toNatClampNeg) :: r, t))) (hj : j < n) (hn : n < 2 ^ 31) (hk : zok t.2 k j = false) (h : zwp m (pc', ls, .inr none :: r, t) Q) : zwp m c Q := by
  refine zwp_grd hz (zin_nI hj hn) ?_
  rw [nI_clamp (Nat.lt_trans hj hn)]
  unfold zel
  rw [hk]
  exact h
-- a boolean's return
theorem zwp_det {m : Nat} {c : zC} {Q Q' : zO → zT → Prop} (h : zwp m c Q) (h' : zwp m c Q') : zwp m c (fun o t => Q o t ∧ Q' o t) := by
  obtain ⟨n, o, t, h1, h2⟩ := h
  obtain ⟨n', o', t', h3, h4⟩ := h'
  have e := zrun_det h1 h3
  cases e
  exact ⟨n, o, t, h1, h2, h4⟩
