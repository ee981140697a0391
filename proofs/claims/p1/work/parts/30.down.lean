/-! The way down, and taking a key out, in the class. -/
theorem nodup_erase {l : List Nat} (h : l.Nodup) (i : Nat) : (l.eraseIdx i).Nodup := h.sublist (List.eraseIdx_sublist l i)
theorem nodup_snoc {l : List Nat} {x : Nat} (h : l.Nodup) (hx : x ∉ l) : (l ++ [x]).Nodup := by
  rw [List.nodup_append]
  refine ⟨h, by simp, fun a ha b hb => ?_⟩
  simp only [List.mem_cons, List.not_mem_nil, or_false] at hb
  rw [hb]
  intro e
  rw [e] at ha
  exact hx ha
theorem erase_out {k : Nat} : ∀ {l : List Nat}, l.Nodup → k ∉ l.eraseIdx (lidx k l)
  | [], _ => by simp
  | a :: r, h => by
    rw [List.nodup_cons] at h
    unfold lidx
    by_cases e : a = k
    · rw [if_pos e, List.eraseIdx_cons_zero, ← e]
      exact h.1
    · rw [if_neg e, List.eraseIdx_cons_succ]
      intro hm
      rcases List.mem_cons.mp hm with hm | hm
      · exact e hm.symm
      · exact erase_out h.2 hm
theorem aOut_w {k : Nat} {l : List Nat} (h : wpool l) : (aOut k l).length ≤ 5 ∧ (∀ p ∈ aOut k l, p ∈ l) ∧ (aOut k l).Nodup ∧ k ∉ aOut k l := by
  obtain ⟨h1, h2, h3⟩ := h
  unfold aOut
  by_cases hk : k ∈ l
  · rw [if_pos hk]
    have hat := (lidx_mem hk).1
    refine ⟨?_, fun p hp => List.mem_of_mem_eraseIdx hp, nodup_erase h3 _, erase_out h3⟩
    rw [List.length_eraseIdx, if_pos hat]
    omega
  · rw [if_neg hk]
    by_cases h6 : l.length = 6
    · rw [if_pos h6]
      refine ⟨?_, fun p hp => List.mem_of_mem_eraseIdx hp, nodup_erase h3 _, fun hm => hk (List.mem_of_mem_eraseIdx hm)⟩
      rw [List.length_eraseIdx, if_pos (by omega)]
      omega
    · rw [if_neg h6]
      exact ⟨by omega, fun p hp => hp, h3, hk⟩
theorem aTouch_w {k : Nat} {l : List Nat} (h : wpool l) (hk : k < 64) : wpool (aTouch k l) := by
  obtain ⟨o1, o2, o3, o4⟩ := aOut_w (k := k) h
  unfold aTouch
  refine ⟨by rw [List.length_append]; simp; omega, fun p hp => ?_, nodup_snoc o3 o4⟩
  rcases List.mem_append.mp hp with hp | hp
  · exact h.2.1 p (o2 p hp)
  · simp only [List.mem_cons, List.not_mem_nil, or_false] at hp
    omega
theorem aTouch_lt {k : Nat} {l : List Nat} (h : wpool l) (hl : ∀ p ∈ l, p < 40) (hk : k < 40) : ∀ p ∈ aTouch k l, p < 40 := by
  intro p hp
  rcases List.mem_append.mp hp with hp | hp
  · exact hl p ((aOut_w h).2.1 p hp)
  · simp only [List.mem_cons, List.not_mem_nil, or_false] at hp
    omega
theorem wA_stP {A : aSt} {l : List Nat} (h : wA A) (h1 : wpool l) (h2 : ∀ p ∈ l, p < 40) : wA (stP A l) := by
  obtain ⟨lg, n, fo, im, dm, bk, pl, r, w, e, q⟩ := A
  obtain ⟨a1, a2, a3, a4, a5, a6, a7, a8⟩ := h
  exact ⟨a1, a2, a3, a4, h1, h2, a7, a8⟩
theorem wA_fix {A : aSt} {p : Nat} (h : wA A) (hp : p < 40) : wA (aFix A p) := by
  unfold aFix
  refine wA_stP ?_ (aTouch_w h.pool.1 (by omega)) (aTouch_lt h.pool.1 h.pool.2 hp)
  split
  · exact wA_win h
  · exact wA_read (wA_win h)
theorem wA_fixN {A : aSt} {p : Nat} (h : wA A) (hp : p < 40) : wA (aFixN A p) := wA_stP (wA_win h) (aTouch_w h.pool.1 (by omega)) (aTouch_lt h.pool.1 h.pool.2 hp)
-- log and size stay
theorem log_win {A : aSt} {o : Option Nat} : gL (aWin A o) = gL A ∧ gN (aWin A o) = gN A := by
  unfold aWin
  split
  · exact ⟨rfl, rfl⟩
  · split
    · exact ⟨rfl, rfl⟩
    · exact ⟨rfl, rfl⟩
theorem log_stP {A : aSt} {l : List Nat} : gL (stP A l) = gL A ∧ gN (stP A l) = gN A := ⟨rfl, rfl⟩
theorem log_read {A : aSt} {p : Nat} : gL (aRead A p) = gL A ∧ gN (aRead A p) = gN A := ⟨rfl, rfl⟩
theorem log_fixN {A : aSt} {p : Nat} : gL (aFixN A p) = gL A ∧ gN (aFixN A p) = gN A := by
  unfold aFixN
  exact ⟨(log_stP.1).trans log_win.1, (log_stP.2).trans log_win.2⟩
theorem log_fix {A : aSt} {p : Nat} : gL (aFix A p) = gL A ∧ gN (aFix A p) = gN A := by
  unfold aFix
  split
  · exact ⟨(log_stP.1).trans log_win.1, (log_stP.2).trans log_win.2⟩
  · exact ⟨(log_stP.1).trans (log_read.1.trans log_win.1), (log_stP.2).trans (log_read.2.trans log_win.2)⟩
def gC (A : aSt) (p : Nat) : aCon := con (gL A) p (gN A)
theorem gC_fix {A : aSt} {p x : Nat} : gC (aFix A p) x = gC A x := by
  unfold gC
  rw [log_fix.1, log_fix.2]
theorem gC_fixN {A : aSt} {p x : Nat} : gC (aFixN A p) x = gC A x := by
  unfold gC
  rw [log_fixN.1, log_fixN.2]
theorem lkC.con {S : zS} {d sl p : Nat} {A : aSt} (hl : lkC S d sl A) (hp : p < 40) : lcon S p (gC A p) := by
  obtain ⟨lg, n, fo, im, dm, bk, pl, r, w, e, q⟩ := A
  exact (hl.2.2.1 p hp).2.2.1
theorem wA.con {A : aSt} (h : wA A) (p : Nat) : wcon (gC A p) := by
  obtain ⟨lg, n, fo, im, dm, bk, pl, r, w, e, q⟩ := A
  exact h.2.2.2.1 p
theorem lkC.size {S : zS} {d sl : Nat} {A : aSt} (hl : lkC S d sl A) : S 65 0 0 = nI (gN A) := by
  obtain ⟨lg, n, fo, im, dm, bk, pl, r, w, e, q⟩ := A
  exact hl.1.1
theorem lkC.num {S : zS} {d sl m : Nat} {A : aSt} (hl : lkC S d sl A) (h1 : 1 ≤ m) (h2 : m ≤ gN A) : S 192 m 0 = nI m := by
  obtain ⟨lg, n, fo, im, dm, bk, pl, r, w, e, q⟩ := A
  exact (hl.1.2.2.2.2.2 m h1 h2).1.1
theorem log_add {A : aSt} {x : aRec} : gL (aAdd A x) = upL (gL A) (gN A + 1) x ∧ gN (aAdd A x) = gN A + 1 := ⟨rfl, rfl⟩
-- children are pages
def kids (A : aSt) : Prop := ∀ p, (gC A p).1 = true → ∀ h ∈ (gC A p).2.1, h < 40
theorem kids_fix {A : aSt} {p : Nat} (h : kids A) : kids (aFix A p) := fun x hb => by
  rw [gC_fix] at hb ⊢
  exact h x hb
theorem cChild_mem {k : Nat} {c : aCon} (hw : wcon c) (hb : c.1 = true) : cChild k c ∈ c.2.1 := List.mem_of_getElem? (cChild_get hw hb)
-- the way down from a page that is fixed
def aDownL (key : Nat) : Nat → aSt → Nat → aSt × Nat
  | 0, A, p => (A, p)
  | f + 1, A, p => if (gC A p).1 = true then aDownL key f (aFix A (cChild key (gC A p))) (cChild key (gC A p)) else (A, p)
def aDown (A : aSt) (key : Nat) : aSt × Nat := aDownL key 39 (aFix A 0) 0
theorem down_w {key : Nat} : ∀ (f : Nat) (A : aSt) (p : Nat), wA A → kids A → p < 40 → wA (aDownL key f A p).1 ∧ kids (aDownL key f A p).1 ∧ (aDownL key f A p).2 < 40 ∧ gL (aDownL key f A p).1 = gL A ∧ gN (aDownL key f A p).1 = gN A
  | 0, A, p, h1, h2, h3 => ⟨h1, h2, h3, rfl, rfl⟩
  | f + 1, A, p, h1, h2, h3 => by
    unfold aDownL
    by_cases hb : (gC A p).1 = true
    · rw [if_pos hb]
      have hc := h2 p hb _ (cChild_mem (k := key) (h1.con p) hb)
      obtain ⟨r1, r2, r3, r4, r5⟩ := down_w (key := key) f (aFix A (cChild key (gC A p))) (cChild key (gC A p)) (wA_fix h1 hc) (kids_fix h2) hc
      exact ⟨r1, r2, r3, r4.trans log_fix.1, r5.trans log_fix.2⟩
    · rw [if_neg hb]
      exact ⟨h1, h2, h3, rfl, rfl⟩
theorem c28L {d sl key : Nat} {S0 : zS} : ∀ (f : Nat) (A : aSt) (p : Nat) (S : zS), f ≤ 39 → lkC S d sl A → wA A → kids A → p < 40 → zkp S0 S → zwp 28 (9, [some (.inr (some (0, 0))), some (.inl (nI key)), some (.inl (nI p)), some (.inl (nI (40 - f)))], [], (S, d)) (fun o t => ∃ S', o = .inl (some (.inl (nI (aDownL key f A p).2))) ∧ t = (S', d) ∧ lkC S' d sl (aDownL key f A p).1 ∧ zkp S0 S')
  | 0, A, p, S, hf, hl, hw, hk, hp, hz => w28_9 ⟨fun _ => ⟨S, rfl, rfl, hl, hz⟩, fun hn => absurd (by rw [nI_le_iff (by omega) (by omega)]; omega) hn⟩
  | f + 1, A, p, S, hf, hl, hw, hk, hp, hz => by
    have hcon := hl.con hp
    refine w28_9 ⟨fun hge => ?_, fun _ => ⟨p, rfl, hp, fun h0 => ?_, fun h0 => ⟨p, rfl, hp, ?_⟩⟩⟩
    · rw [nI_le_iff (by omega) (by omega)] at hge
      omega
    · rw [hcon.1, b2i_0] at h0
      unfold aDownL
      rw [if_neg (by rw [h0]; decide)]
      exact ⟨S, rfl, rfl, hl, hz⟩
    · rw [hcon.1, b2i_0] at h0
      have hb : (gC A p).1 = true := by
        cases hb : (gC A p).1 with
        | true => rfl
        | false => exact absurd hb h0
      have hc := hk p hb _ (cChild_mem (k := key) (hw.con p) hb)
      refine zwp_mono (c69 hcon (hw.con p) hb) (fun o t h => ?_)
      obtain ⟨rfl, rfl⟩ := h
      refine w28_43 (zwp_mono (c33 hl hw hc) (fun o t h => ?_))
      obtain ⟨S1, rfl, rfl, k1, z1⟩ := h
      refine w28_49 ?_
      rw [nI_add]
      have := c28L (S0 := S0) (key := key) (d := d) (sl := sl) f (aFix A (cChild key (gC A p))) (cChild key (gC A p)) S1 (by omega) k1 (wA_fix hw hc) (kids_fix hk) hc (hz.tr z1)
      rw [show 40 - f = 40 - (f + 1) + 1 by omega] at this
      unfold aDownL
      rw [if_pos hb]
      exact this
theorem c28 {S : zS} {d sl key : Nat} {A : aSt} (hl : lkC S d sl A) (hw : wA A) (hk : kids A) : zwp 28 (0, zent 28 [.inr (some (0, 0)), .inl (nI key)], [], (S, d)) (fun o t => ∃ S', o = .inl (some (.inl (nI (aDown A key).2))) ∧ t = (S', d) ∧ lkC S' d sl (aDown A key).1 ∧ zkp S S') := by
  refine w28_0 (zwp_mono (c33 (p := 0) hl hw (by decide)) (fun o t h => ?_))
  obtain ⟨S1, rfl, rfl, k1, z1⟩ := h
  exact w28_7 (c28L 39 (aFix A 0) 0 S1 (Nat.le_refl _) k1 (wA_fix hw (by decide)) (kids_fix hk) (by decide) z1)
-- changes of an entry
def aChg (K p s u L k : Nat) (v : Int32) (c : aCon) : aRec := (K, p, s, u, L, k, v, decide (k ∈ c.2.1), aOld k c, (false, [], []))
-- PageKeeper.takeOut
def aTake (A : aSt) (s k u sl : Nat) : aSt × Nat := if k ∈ (gC (aDown A k).1 (aDown A k).2).2.1 then (aAdd (aDown A k).1 (aChg 2 (aDown A k).2 s u (aLast sl (gN A)) k 0 (gC (aDown A k).1 (aDown A k).2)), gN A + 1) else ((aDown A k).1, 0)
theorem c26 {S : zS} {d sl s k u : Nat} {A : aSt} (hl : lkC S d sl A) (hw : wA A) (hk : kids A) (hn : gN A < 1144) (hs : s < 2000) (hk40 : k < 40) (hu : u ≤ gN A) (hsl : sl < 2000) (hleaf : (gC (aDown A k).1 (aDown A k).2).1 = false) :
    zwp 26 (0, zent 26 [.inr (some (0, 0)), .inl (nI s), .inl (nI k), .inl (nI u)], [], (S, d)) (fun o t => ∃ S' d', o = .inl (some (.inl (nI (aTake A s k u sl).2))) ∧ t = (S', d') ∧ lkC S' d' sl (aTake A s k u sl).1 ∧ zkp S S') := by
  obtain ⟨w1, w2, w3, w4, w5⟩ := down_w (key := k) 39 (aFix A 0) 0 (wA_fix hw (by decide)) (kids_fix hk) (by decide)
  rw [log_fix.1] at w4
  rw [log_fix.2] at w5
  refine w26_0 (zwp_mono (c28 (key := k) hl hw hk) (fun o t h => ?_))
  obtain ⟨S1, rfl, rfl, k1, z1⟩ := h
  have hp40 : (aDown A k).2 < 40 := w3
  have hwd : wA (aDown A k).1 := w1
  have hNd : gN (aDown A k).1 = gN A := w5
  refine w26_5 ⟨_, rfl, hp40, zwp_mono (c68 (k1.con hp40) (hwd.con _) (by omega)) (fun o t h => ?_)⟩
  obtain ⟨rfl, rfl⟩ := h
  have hwl := (hwd.con (aDown A k).2).1
  refine w26_21 ⟨fun hm => ?_, fun hm => ?_⟩
  · rw [zix_m1 (by omega)] at hm
    unfold aTake
    rw [if_neg hm]
    exact ⟨S1, d, rfl, rfl, k1, z1⟩
  · rw [zix_m1 (by omega), Decidable.not_not] at hm
    have e0 : aTake A s k u sl = (aAdd (aDown A k).1 (aChg 2 (aDown A k).2 s u (aLast sl (gN A)) k 0 (gC (aDown A k).1 (aDown A k).2)), gN A + 1) := by
      unfold aTake
      rw [if_pos hm]
    refine zwp_mono (c27 (K := 2) (p := (aDown A k).2) (s := s) (k := k) (u := u) k1 hwd (by omega) hp40 (by omega) hsl hleaf) (fun o t h => ?_)
    obtain ⟨S2, d2, rfl, rfl, g1, g2, f2, u65, u192, u193, u194, u195, u196, u197, u198, u199, u200, u206, u207⟩ := h
    have hL : aLast sl (gN A) < 2000 := by unfold aLast; split <;> omega
    have hx : okr (aDown A k).1 (aChg 2 (aDown A k).2 s u (aLast sl (gN A)) k 0 (gC (aDown A k).1 (aDown A k).2)) := by
      refine ⟨⟨by show 2 < 8; decide, fun _ => hp40, hs, ?_, hL, by show k < 64; omega, fun z => absurd z (by show ¬ 6 ≤ 2; decide)⟩, fun _ => ?_⟩
      · show u < gN (aDown A k).1 + 1
        omega
      · exact ⟨hleaf, hm⟩
    refine w26_37 (zwp_mono (cAdd k1 hwd (by omega) hx f2 g1 g2 u65 ⟨u192, u193, u194, u195, u196, u197, ?_⟩ ⟨u200, u206, u207⟩ u198) (fun o t h => ?_))
    · rw [u199, hNd]
      rfl
    · obtain ⟨S3, rfl, rfl, k3, z3⟩ := h
      refine w26_45 ⟨S3, d2, ?_, rfl, ?_, z1.tr z3⟩
      · rw [e0]
        have : S3 192 (gN (aDown A k).1 + 1) 0 = nI (gN (aDown A k).1 + 1) := k3.num (by omega) (by rw [log_add.2]; exact Nat.le_refl _)
        rw [this, hNd]
      · rw [e0]
        exact k3
