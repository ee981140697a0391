/-! The model's other calls: images, backups, forcing, a crash; how many are lost. -/
section OC2
variable {lg : Nat → aRec}
theorem pg_in {p : Nat} : ∀ {n : Nat}, TR lg n → 1 ≤ p → p < pgs lg n → 0 < lat lg p n
  | 0, _, h1, h2 => by
    have h2 : p < 1 := h2
    omega
  | n + 1, ht, h1, h2 => by
    obtain ⟨-, -, -, t4, -⟩ := ht n (by omega)
    rw [lat]
    by_cases hb : isPg p (lg (n + 1)) = true
    · rw [if_pos hb]
      omega
    · rw [if_neg hb]
      rw [pgs] at h2
      refine pg_in (TR_sub ht (Nat.le_succ n)) h1 ?_
      by_cases hK : rK (lg (n + 1)) < 6
      · rw [if_pos hK] at h2
        have h4 := t4 hK
        have : rP (lg (n + 1)) ≠ p := fun z => hb (isPg_t hK z)
        omega
      · rw [if_neg hK] at h2
        exact h2
theorem isPg_lt {p x : Nat} (h1 : 1 ≤ x) (hb : isPg p (lg x) = true) : ∀ {n : Nat}, x ≤ n → p < pgs lg n
  | 0, h2 => by omega
  | n + 1, h2 => by
    rw [pgs]
    by_cases e : x = n + 1
    · have h := of_decide_eq_true hb
      rw [e] at h
      rw [if_pos h.1]
      omega
    · have := isPg_lt h1 hb (n := n) (by omega)
      split <;> omega
theorem con_no {p : Nat} : ∀ {n : Nat}, pgs lg n ≤ p → con lg p n = (false, [], [])
  | 0, _ => rfl
  | n + 1, h => by
    have h1 : ¬ isPg p (lg (n + 1)) = true := fun z => by
      have := isPg_lt (lg := lg) (x := n + 1) (p := p) (by omega) z (Nat.le_refl _)
      omega
    rw [con, if_neg h1]
    refine con_no ?_
    rw [pgs] at h
    split at h <;> omega
theorem cUc_mono {a b : Nat} (h : a ≤ b) : cUc lg a ≤ cUc lg b := by
  induction b with
  | zero =>
    have : a = 0 := by omega
    rw [this]
    exact Nat.le_refl _
  | succ b ih =>
    by_cases e : a = b + 1
    · rw [e]
      exact Nat.le_refl _
    · have := ih (by omega)
      rw [cUc]
      omega
theorem force_or {m fo n : Nat} (hm : m ≤ n) : aForce lg m fo = fo ∨ ∃ x, 1 ≤ x ∧ x ≤ n ∧ aForce lg m fo = rL (lg x) := by
  unfold aForce
  by_cases h : 0 < m ∧ fo < rL (lg m)
  · rw [if_pos h]
    exact Or.inr ⟨m, by omega, hm, rfl⟩
  · rw [if_neg h]
    exact Or.inl rfl
theorem force_ge {m fo : Nat} : fo ≤ aForce lg m fo := by
  unfold aForce
  split <;> omega
end OC2
section OC3
variable {A B : aSt} {ss : Nat}
theorem rG_same (h : rG A) (hL : gL B = gL A) (hN : gN B = gN A) (hf : gFo B = gFo A ∨ ∃ m, 1 ≤ m ∧ m ≤ gN A ∧ gFo B = rL (gL A m)) (hw : wA B) (hfr : frs B) : rG B := by
  obtain ⟨h1, h2, h3, h4, h5⟩ := h
  refine ⟨wM_same hL hN hf hw h1, wl_same hL hN hf h2, hfr, ?_, ?_⟩
  · unfold kidM gC gM at *
    rw [hL, hN]
    exact h4
  · unfold fmb gM at *
    rw [hL, hN]
    exact h5
theorem TRa_same (h : TRa A) (hL : gL B = gL A) (hN : gN B = gN A) : TRa B := by
  unfold TRa at *
  rw [hL, hN]
  exact h
theorem JJ_fo {m : Nat} (h : JJ A ss) (hm : m ≤ gN A) : JJ (stFo A m) ss := by
  have hw : wA (stFo A m) := by
    have h1 := h.1.1.1
    obtain ⟨lg, n, fo, im, dm, bk, pl, r, w, e, q⟩ := A
    obtain ⟨a1, a2, a3, a4⟩ := h1
    exact ⟨a1, aForce_lt a2 hm a3, a3, a4⟩
  have hf : frs (stFo A m) := by
    have h1 := h.1.2.2.1
    obtain ⟨lg, n, fo, im, dm, bk, pl, r, w, e, q⟩ := A
    exact h1
  have hS : SB (stFo A m) := by
    have h1 := h.2.1.1
    obtain ⟨lg, n, fo, im, dm, bk, pl, r, w, e, q⟩ := A
    obtain ⟨a1, a2⟩ := h1
    exact ⟨fun p => Nat.le_trans (a1 p) force_ge, fun p x hx => ⟨Nat.le_trans (a2 p x hx).1 force_ge, (a2 p x hx).2⟩⟩
  have hF : gFo (stFo A m) = gFo A ∨ ∃ x, 1 ≤ x ∧ x ≤ gN A ∧ gFo (stFo A m) = rL (gL A x) := by
    obtain ⟨lg, n, fo, im, dm, bk, pl, r, w, e, q⟩ := A
    exact force_or hm
  have hL : gL (stFo A m) = gL A := by
    obtain ⟨lg, n, fo, im, dm, bk, pl, r, w, e, q⟩ := A
    rfl
  have hN : gN (stFo A m) = gN A := by
    obtain ⟨lg, n, fo, im, dm, bk, pl, r, w, e, q⟩ := A
    rfl
  exact JJ_same h hL hN (rG_same h.1 hL hN hF hw hf) ⟨hS, TRa_same h.2.1.2 hL hN⟩
theorem JJ_win {p : Nat} (h : JJ A ss) (hp : p < gM A) : JJ (aWin A (some p)) ss := by
  have hf : frs (aWin A (some p)) := by
    intro x hx
    rw [gM_win] at hx
    obtain ⟨h1, h2, h3⟩ := h.1.2.2.1 x hx
    obtain ⟨g1, g2, -⟩ := win_at (A := A) (o := some p) (p := x) (fun z => by cases z; omega)
    rw [gP_win]
    exact ⟨h1, g1.trans h2, g2.trans h3⟩
  exact JJ_same h log_win.1 log_win.2 (rG_same h.1 log_win.1 log_win.2 fo_win (wA_win h.1.1.1) hf) ⟨SB_win h.2.1.1 h.2.1.2, TRa_same h.2.1.2 log_win.1 log_win.2⟩
theorem JJ_dm {p : Nat} {v : Bool} (h : JJ A ss) (hp : p < gM A) : JJ (stDm A p v) ss := by
  obtain ⟨lg, n, fo, im, dm, bk, pl, r, w, e, q⟩ := A
  have hp : p < pgs lg n := hp
  have hf : frs (stDm (lg, n, fo, im, dm, bk, pl, r, w, e, q) p v) := by
    intro x hx
    have hx : pgs lg n ≤ x := hx
    obtain ⟨h1, h2, h3⟩ := h.1.2.2.1 x hx
    refine ⟨h1, h2, ?_⟩
    show upB dm p v x = false
    unfold upB
    rw [if_neg (by omega)]
    exact h3
  exact JJ_same h rfl rfl (rG_same h.1 rfl rfl (Or.inl rfl) h.1.1.1 hf) ⟨h.2.1.1, h.2.1.2⟩
theorem JJ_bk {p : Nat} (h : JJ A ss) (hp : p < gM A) : JJ (stBk A p) ss := by
  obtain ⟨lg, n, fo, im, dm, bk, pl, r, w, e, q⟩ := A
  have hp : p < pgs lg n := hp
  have hle := lat_le lg p n
  have hTR : TR lg n := h.2.1.2
  have hw : wA (stBk (lg, n, fo, im, dm, bk, pl, r, w, e, q) p) := by
    obtain ⟨a1, a2, a3, a4, a5, a6, a7, a8⟩ := h.1.1.1
    refine ⟨a1, aForce_lt a2 hle a3, a3, a4, a5, a6, a7, fun x y hy => ?_⟩
    have hy : upO bk p (some (lat lg p n)) x = some y := hy
    unfold upO at hy
    split at hy
    · cases hy
      exact hle
    · exact a8 x y hy
  have hl : lat lg p n ≤ aForce lg (lat lg p n) fo := by
    unfold aForce
    by_cases h0 : 0 < lat lg p n
    · have h1 : lat lg p n ≤ rL (lg (lat lg p n)) := TRa.l (A := (lg, n, fo, im, dm, bk, pl, r, w, e, q)) h.2.1.2 (k := lat lg p n) h0 hle
      split <;> omega
    · omega
  have hS : SB (stBk (lg, n, fo, im, dm, bk, pl, r, w, e, q) p) := by
    obtain ⟨a1, a2⟩ := h.2.1.1
    refine ⟨fun x => Nat.le_trans (a1 x) force_ge, fun x y hy => ?_⟩
    have hy : upO bk p (some (lat lg p n)) x = some y := hy
    unfold upO at hy
    split at hy
    · rename_i e
      cases hy
      refine ⟨hl, hle, ?_⟩
      by_cases h0 : x = 0
      · exact Or.inl h0
      · have h1 := pg_in hTR (p := p) (by omega) hp
        rw [e]
        exact Or.inr ⟨h1, lat_is h1⟩
    · obtain ⟨z1, z2⟩ := a2 x y hy
      exact ⟨Nat.le_trans z1 force_ge, z2⟩
  exact JJ_same h rfl rfl (rG_same h.1 rfl rfl (force_or hle) hw h.1.2.2.1) ⟨hS, hTR⟩
-- the three calls
theorem JJ_flush {x : Int32} (h : JJ A ss) : JJ (aFlush A x).2 ss ∧ gL (aFlush A x).2 = gL A ∧ gN (aFlush A x).2 = gN A := by
  have hM := gM_le h.1.1.1
  unfold aFlush
  rcases ixc (n := gM A) (by omega) x with ⟨j, hj, rfl⟩ | hx
  · rw [nI_nat (by omega)]
    split
    · exact ⟨h, rfl, rfl⟩
    · split
      · exact ⟨JJ_win h hj, log_win.1, log_win.2⟩
      · exact ⟨h, rfl, rfl⟩
  · rw [if_pos hx]
    exact ⟨h, rfl, rfl⟩
theorem JJ_damage {x : Int32} (h : JJ A ss) : JJ (aDamage A x).2 ss ∧ gL (aDamage A x).2 = gL A ∧ gN (aDamage A x).2 = gN A := by
  have hM := gM_le h.1.1.1
  unfold aDamage
  rcases ixc (n := gM A) (by omega) x with ⟨j, hj, rfl⟩ | hx
  · rw [nI_nat (by omega)]
    split
    · exact ⟨h, rfl, rfl⟩
    · split
      · exact ⟨h, rfl, rfl⟩
      · refine ⟨JJ_dm h hj, ?_, ?_⟩
        · obtain ⟨lg, n, fo, im, dm, bk, pl, r, w, e, q⟩ := A
          rfl
        · obtain ⟨lg, n, fo, im, dm, bk, pl, r, w, e, q⟩ := A
          rfl
  · rw [if_pos hx]
    exact ⟨h, rfl, rfl⟩
theorem JJ_backup {x : Int32} (h : JJ A ss) : JJ (aBackup A x).2 ss ∧ gL (aBackup A x).2 = gL A ∧ gN (aBackup A x).2 = gN A := by
  have hM := gM_le h.1.1.1
  unfold aBackup
  rcases ixc (n := gM A) (by omega) x with ⟨j, hj, rfl⟩ | hx
  · rw [nI_nat (by omega)]
    split
    · exact ⟨h, rfl, rfl⟩
    · have h1 := JJ_fix (p := j) h hj
      have hj2 : j < gM (aFix A j) := by
        rw [gM_fix]
        exact hj
      have l1 : gL (aFix A j) = gL A := log_fix.1
      have l2 : gN (aFix A j) = gN A := log_fix.2
      generalize aFix A j = B at *
      refine ⟨JJ_bk h1 hj2, ?_, ?_⟩
      · obtain ⟨lg, n, fo, im, dm, bk, pl, r, w, e, q⟩ := B
        exact l1
      · obtain ⟨lg, n, fo, im, dm, bk, pl, r, w, e, q⟩ := B
        exact l2
  · rw [if_pos hx]
    exact ⟨h, rfl, rfl⟩
end OC3
-- a crash
theorem JJ_crash {lg : Nat → aRec} {n fo : Nat} {im : Nat → Nat} {dm : Nat → Bool} {bk : Nat → Option Nat} {pl : List Nat} {r w e q : Int32} {ss : Nat} (h : JJ (lg, n, fo, im, dm, bk, pl, r, w, e, q) ss) :
    JJ (aCrash (lg, n, fo, im, dm, bk, pl, r, w, e, q)) ss ∧ fo ≤ n ∧ n ≤ 1144 ∧ pleg lg fo ∧ (∀ k, 1 ≤ k → k ≤ fo → (rK (lg k) = 1 ∨ rK (lg k) = 2) → rY (lg k) < 40) ∧ wlog lg fo ∧ (∀ p, pgs lg fo ≤ p → bk p = none) ∧ TR lg fo ∧ cUc lg fo ≤ cUc lg n := by
  obtain ⟨⟨⟨hwA, hwh, hgr, hpl, hpo⟩, ⟨hl1, hl2⟩, hfr, hki, hfm⟩, ⟨⟨hs1, hs2⟩, hTR⟩, hWT, hrW, hcu⟩ := h
  have hTR : TR lg n := hTR
  have hfo : fo ≤ n := hl2
  have hwh : ∀ k, 1 ≤ k → k ≤ n → k ≤ fo → rL (lg k) ≤ fo := hwh
  have hgr : ∀ k j, 1 ≤ k → k ≤ n → 1 ≤ j → j ≤ n → k ≤ rL (lg j) → rL (lg k) ≤ rL (lg j) := hgr
  have hpl : pleg lg n := hpl
  have hpo : pord lg n := hpo
  have hs1 : ∀ p, im p ≤ fo := hs1
  have hs2 : ∀ p x, bk p = some x → x ≤ fo ∧ x ≤ n ∧ (p = 0 ∨ (1 ≤ x ∧ isPg p (lg x) = true)) := hs2
  have hrW : ∀ j, j < n → rW (lg (j + 1)) ≤ ss := hrW
  have hcu : cUc lg n + ss ≤ 512 := hcu
  have hWT : WT lg n := hWT
  have hT : Tl lg fo := hWT fo hfo (fun k h1 h2 => hwh k h1 (by omega) h2)
  have hpl' : pleg lg fo := fun k hk => hpl k (by omega)
  have hTR' : TR lg fo := TR_sub hTR hfo
  have hcm := cUc_mono (lg := lg) hfo
  obtain ⟨a1, a2, a3, -⟩ := hwA
  have hwl : wlog lg fo := ⟨by omega, fun k q1 q2 => a3 k q1 (by omega)⟩
  have hbk : ∀ p, pgs lg fo ≤ p → bk p = none := by
    intro p hp
    cases hb : bk p with
    | none => rfl
    | some x =>
      obtain ⟨z1, z2, z3⟩ := hs2 p x hb
      have h1 := pgs_pos (lg := lg) fo
      rcases z3 with z3 | z3
      · omega
      · have := isPg_lt z3.1 z3.2 z1
        omega
  refine ⟨⟨⟨⟨⟨by omega, by omega, hwl.2, fun p => pleg_con hpl' p fo (Nat.le_refl _), ⟨by decide, fun p hp => (by cases hp), List.nodup_nil⟩, fun p hp => (by cases hp), fun p => ?_, fun p x hx => ?_⟩, ?_, ?_, hpl', fun k hk => hpo k (Nat.lt_of_lt_of_le hk hfo)⟩, ⟨fun k q1 q2 => hwh k q1 (Nat.le_trans q2 hfo) q2, Nat.le_refl fo⟩, fun p hp => ⟨fun z => (by cases z), ?_, ?_⟩, ?_, hT.2.2⟩, ⟨⟨fun p => ?_, fun p x hx => ?_⟩, hTR'⟩, fun m hm hb => hWT m (Nat.le_trans hm hfo) hb, fun j hj => hrW j (Nat.lt_of_lt_of_le hj hfo), ?_⟩, hfo, a1, hpl', fun k q1 q2 q3 => ?_, hwl, hbk, hTR', hcm⟩
  · show (if p < pgs lg fo then im p else 0) ≤ fo
    split
    · exact hs1 p
    · exact Nat.zero_le _
  · have hx : (if p < pgs lg fo then bk p else none) = some x := hx
    split at hx
    · exact (hs2 p x hx).1
    · cases hx
  · exact fun k q1 q2 _ => hwh k q1 (Nat.le_trans q2 hfo) q2
  · exact fun k j q1 q2 q3 q4 => hgr k j q1 (Nat.le_trans q2 hfo) q3 (Nat.le_trans q4 hfo)
  · have hp : pgs lg fo ≤ p := hp
    show (if p < pgs lg fo then im p else 0) = 0
    rw [if_neg (by omega)]
  · have hp : pgs lg fo ≤ p := hp
    show (if p < pgs lg fo then dm p else false) = false
    rw [if_neg (by omega)]
  · intro p hb x hx
    have hb : (con lg p fo).1 = true := hb
    have hx : x ∈ (con lg p fo).2.1 := hx
    show x < pgs lg fo
    rcases Nat.lt_or_ge p (pgs lg fo) with hp | hp
    · obtain ⟨⟨lo, hi, lv, up, ht⟩, -⟩ := hT
      have := ((ht.2.2.1 p hp).2.2.2.2 hb).2
      exact (chn_mem this hx).1.1
    · rw [con_no hp] at hb
      cases hb
  · show (if p < pgs lg fo then im p else 0) ≤ fo
    split
    · exact hs1 p
    · exact Nat.zero_le _
  · have hx : (if p < pgs lg fo then bk p else none) = some x := hx
    split at hx
    · obtain ⟨z1, z2, z3⟩ := hs2 p x hx
      exact ⟨z1, z1, z3⟩
    · cases hx
  · show cUc lg fo + ss ≤ 512
    omega
  · have := (hTR (k - 1) (by omega)).1
    rw [show k - 1 + 1 = k by omega] at this
    exact (this q3).1
theorem PL_crash {lg : Nat → aRec} {n fo : Nat} {im : Nat → Nat} {dm : Nat → Bool} {bk : Nat → Option Nat} {pl : List Nat} {r w e q : Int32} {ss : Nat} (hT : TR lg fo) (hW : ∀ j, j < fo → rW (lg (j + 1)) ≤ ss) : PL (aCrash (lg, n, fo, im, dm, bk, pl, r, w, e, q)) (fun _ => 0) ss (fun _ _ => 0) (losOf lg fo) :=
  ⟨fun _ => Nat.zero_le _, fun t _ z => absurd rfl z, fun t t' _ _ z => absurd rfl z, fun _ _ => Nat.zero_le _, fun _ _ _ _ _ _ _ _ => rfl, fun t k _ _ z => absurd rfl z, ⟨fun k _ s hs => by
    rw [los_iff hs hT]
    exact ⟨fun z => ⟨z.1, z.2, fun t _ => (by show 0 ≠ s; omega)⟩, fun z => ⟨z.1, z.2.1⟩⟩, fun k => los_le hW⟩, fun _ _ _ _ _ => rfl⟩
-- how many are lost
section CNT
variable {ls : Nat → Nat}
theorem lla_spec (s : Nat) : ∀ n, (lla ls s n = 0 ∧ ∀ k, k < n → ls k ≤ s) ∨ (s < lla ls s n ∧ (∃ k, k < n ∧ ls k = lla ls s n) ∧ ∀ k, k < n → ls k ≤ s ∨ lla ls s n ≤ ls k)
  | 0 => Or.inl ⟨rfl, fun k hk => by omega⟩
  | n + 1 => by
    have ih := lla_spec s n
    rw [lla]
    by_cases e : ls n ≤ s
    · rw [if_pos e]
      rcases ih with ⟨i1, i2⟩ | ⟨i1, ⟨k, i2, i3⟩, i4⟩
      · refine Or.inl ⟨i1, fun k hk => ?_⟩
        by_cases e2 : k = n
        · rw [e2]
          exact e
        · exact i2 k (by omega)
      · refine Or.inr ⟨i1, ⟨k, by omega, i3⟩, fun j hj => ?_⟩
        by_cases e2 : j = n
        · rw [e2]
          exact Or.inl e
        · exact i4 j (by omega)
    · rw [if_neg e]
      rcases ih with ⟨i1, i2⟩ | ⟨i1, ⟨k, i2, i3⟩, i4⟩
      · rw [if_pos i1]
        refine Or.inr ⟨by omega, ⟨n, by omega, rfl⟩, fun j hj => ?_⟩
        by_cases e2 : j = n
        · rw [e2]
          exact Or.inr (Nat.le_refl _)
        · exact Or.inl (i2 j (by omega))
      · rw [if_neg (by omega)]
        by_cases e3 : lla ls s n ≤ ls n
        · rw [if_pos e3]
          refine Or.inr ⟨i1, ⟨k, by omega, i3⟩, fun j hj => ?_⟩
          by_cases e2 : j = n
          · rw [e2]
            exact Or.inr e3
          · exact i4 j (by omega)
        · rw [if_neg e3]
          refine Or.inr ⟨by omega, ⟨n, by omega, rfl⟩, fun j hj => ?_⟩
          by_cases e2 : j = n
          · rw [e2]
            exact Or.inr (Nat.le_refl _)
          · rcases i4 j (by omega) with z | z
            · exact Or.inl z
            · exact Or.inr (by omega)
def gtn (ls : Nat → Nat) (s : Nat) : Nat → Nat
  | 0 => 0
  | n + 1 => gtn ls s n + (if ls n ≤ s then 0 else 1)
theorem gtn_le (s : Nat) : ∀ n, gtn ls s n ≤ n
  | 0 => Nat.le_refl _
  | n + 1 => by
    have := gtn_le s n
    rw [gtn]
    split <;> omega
theorem gtn_mono {s x : Nat} (h : s ≤ x) : ∀ n, gtn ls x n ≤ gtn ls s n
  | 0 => Nat.le_refl _
  | n + 1 => by
    have := gtn_mono h n
    rw [gtn, gtn]
    split <;> split <;> omega
theorem gtn_less {s x : Nat} (h : s < x) : ∀ {n : Nat}, (∃ k, k < n ∧ ls k = x) → gtn ls x n + 1 ≤ gtn ls s n
  | 0, hk => by
    obtain ⟨k, hk, -⟩ := hk
    omega
  | n + 1, hk => by
    rw [gtn, gtn]
    by_cases e : ls n = x
    · have := gtn_mono (ls := ls) (Nat.le_of_lt h) n
      rw [if_pos (by omega), if_neg (by omega)]
      omega
    · obtain ⟨k, h1, h2⟩ := hk
      have := gtn_less h (n := n) ⟨k, by
        have : k ≠ n := fun z => e (by rw [← z]; exact h2)
        omega, h2⟩
      split <;> split <;> omega
theorem gtn_pos {s : Nat} : ∀ {n : Nat}, gtn ls s n = 0 → ∀ k, k < n → ls k ≤ s
  | 0, _, k, hk => by omega
  | n + 1, h, k, hk => by
    rw [gtn] at h
    by_cases e : ls n ≤ s
    · by_cases e2 : k = n
      · rw [e2]
        exact e
      · exact gtn_pos (n := n) (by omega) k (by omega)
    · rw [if_neg e] at h
      omega
theorem nlo_skip {lg : Nat → aRec} {n : Nat} {sr : Nat → Nat} {s : Nat} : ∀ {x : Nat}, s ≤ x → (∀ y, s < y → y ≤ x → isLo lg n sr y = false) → nlo lg n sr x = nlo lg n sr s
  | 0, h, _ => by
    have : s = 0 := by omega
    rw [this]
  | x + 1, h, hy => by
    by_cases e : s = x + 1
    · rw [e]
    · rw [nlo, hy (x + 1) (by omega) (Nat.le_refl _), if_neg (by decide)]
      exact nlo_skip (by omega) (fun y q1 q2 => hy y q1 (by omega))
theorem ccl_nlo {A : aSt} {sr : Nat → Nat} {ss : Nat} (hS : lsS A sr ss ls) : ∀ (f s : Nat), s ≤ ss → gtn ls s 40 ≤ f → ccl ls f (lla ls s 40) + nlo (gL A) (gN A) sr s = nlo (gL A) (gN A) sr ss := by
  have no : ∀ (s y : Nat), 1 ≤ y → y ≤ ss → (∀ k, k < 40 → ls k ≠ y) → isLo (gL A) (gN A) sr y = false := fun s y y1 y2 hk => by
    cases hb : isLo (gL A) (gN A) sr y with
    | false => rfl
    | true =>
      obtain ⟨k, q1, q2⟩ := (hS.2 y y1 y2).mp hb
      exact absurd q2 (hk k q1)
  intro f
  induction f with
  | zero =>
    intro s h1 h2
    have h3 := gtn_pos (ls := ls) (s := s) (n := 40) (by omega)
    have e : ccl ls 0 (lla ls s 40) = 0 := rfl
    rw [e, nlo_skip h1 (fun y y1 y2 => no s y (by omega) y2 (fun k hk => by have := h3 k hk; omega))]
    omega
  | succ f ih =>
    intro s h1 h2
    have e : ccl ls (f + 1) (lla ls s 40) = if lla ls s 40 = 0 then 0 else ccl ls f (lla ls (lla ls s 40) 40) + 1 := rfl
    rw [e]
    rcases lla_spec (ls := ls) s 40 with ⟨i1, i2⟩ | ⟨i1, i2, i4⟩
    · rw [if_pos i1, nlo_skip h1 (fun y y1 y2 => no s y (by omega) y2 (fun k hk => by have := i2 k hk; omega))]
      omega
    · have hg := gtn_less i1 i2
      generalize lla ls s 40 = x at *
      obtain ⟨k, k1, k2⟩ := i2
      have hx : x ≤ ss := by
        have := hS.1 k k1
        omega
      have h3 := ih x hx (by omega)
      rw [if_neg (by omega)]
      have h4 : nlo (gL A) (gN A) sr x = nlo (gL A) (gN A) sr s + 1 := by
        cases x with
        | zero => omega
        | succ x =>
          rw [nlo, if_pos ((hS.2 (x + 1) (by omega) hx).mpr ⟨k, k1, k2⟩), nlo_skip (s := s) (by omega) (fun y y1 y2 => no s y (by omega) (by omega) (fun j hj => by
            rcases i4 j hj with z | z <;> omega))]
      omega
theorem los_n {A : aSt} {sr : Nat → Nat} {ss : Nat} (hS : lsS A sr ss ls) : ccl ls 40 (lla ls 0 40) = nlo (gL A) (gN A) sr ss := ccl_nlo hS 40 0 (Nat.zero_le _) (gtn_le 0 40)
end CNT
