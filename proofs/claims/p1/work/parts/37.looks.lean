/-! The class's calls that only look, and damage, flush, backup. -/
def gIm (A : aSt) : Nat → Nat := A.2.2.2.1
def gDm (A : aSt) : Nat → Bool := A.2.2.2.2.1
def gBk (A : aSt) : Nat → Option Nat := A.2.2.2.2.2.1
def gFo (A : aSt) : Nat := A.2.2.1
def gCt (A : aSt) : Int32 × Int32 × Int32 × Int32 := A.2.2.2.2.2.2.2
theorem ifx_n {n : Nat} {x : Int32} {a b : Int32} (h : x < 0 ∨ nI n ≤ x) : (if x < 0 ∨ nI n ≤ x then a else b) = a := if_pos h
theorem ifx_y {n j : Nat} {a b : Int32} (hn : n < 2 ^ 31) (h : j < n) : (if nI j < 0 ∨ nI n ≤ nI j then a else b) = b := if_neg (fun z => z.elim (nI_pos (by omega)) (nI_ge h hn))
def qP1 (A : aSt) (p : Nat) (w : Int32) : Int32 := if w = nI 0 then b2i (decide (p ∈ gP A)) else if w = nI 1 then nI (gIm A p) else if w = nI 2 then oI (gBk A p) else if w = nI 3 then b2i (gDm A p) else if w = nI 4 then nI (lat (gL A) p (gN A)) else if w = nI 5 then nI (cnt (gL A) p (gN A)) else zint (-1)
def qPg (A : aSt) (x w : Int32) : Int32 := if x < 0 ∨ nI (gM A) ≤ x then zint (-1) else qP1 A x.toNatClampNeg w
theorem lkC.m {S : zS} {d sl : Nat} {A : aSt} (hl : lkC S d sl A) : S 4 0 0 = nI (gM A) := by
  obtain ⟨lg, n, fo, im, dm, bk, pl, r, w, e, q⟩ := A
  exact hl.2.1
theorem lkC.pg {S : zS} {d sl : Nat} {A : aSt} (hl : lkC S d sl A) {p : Nat} (hp : p < 40) : lpg S (gL A) (gN A) (gIm A) (gDm A) (gBk A) p := by
  obtain ⟨lg, n, fo, im, dm, bk, pl, r, w, e, q⟩ := A
  exact hl.2.2.1 p hp
theorem lkC.log {S : zS} {d sl : Nat} {A : aSt} (hl : lkC S d sl A) : llog S d (gL A) (gN A) (gFo A) sl := by
  obtain ⟨lg, n, fo, im, dm, bk, pl, r, w, e, q⟩ := A
  exact hl.1
theorem lkC.ct {S : zS} {d sl : Nat} {A : aSt} (hl : lkC S d sl A) : S 8 0 0 = (gCt A).1 ∧ S 9 0 0 = (gCt A).2.1 ∧ S 10 0 0 = (gCt A).2.2.1 ∧ S 11 0 0 = (gCt A).2.2.2 := by
  obtain ⟨lg, n, fo, im, dm, bk, pl, r, w, e, q⟩ := A
  exact hl.2.2.2.2
theorem b2i_br {b : Bool} {P : Int32 → Prop} (h : P (b2i b)) : (b2i b = 0 → P (nI 0)) ∧ (¬ b2i b = 0 → P (nI 1)) := by
  cases b
  · exact ⟨fun _ => h, fun z => absurd rfl z⟩
  · exact ⟨fun z => absurd z (by decide), fun _ => h⟩
section LOOK
variable {S : zS} {d sl : Nat} {A : aSt}
theorem k11 {x w : Int32} (hl : lkC S d sl A) (hw : wA A) (hM : gM A ≤ 40) : zwp 11 (0, zent 11 [.inr (some (0, 0)), .inl x, .inl w], [], (S, d)) (fun o t => o = .inl (some (.inl (qPg A x w))) ∧ t = (S, d)) := by
  unfold qPg
  rcases ixc (n := gM A) (by omega) x with ⟨j, hj, rfl⟩ | hx
  · rw [ifx_y (by omega) hj, nI_clamp (by omega)]
    refine w11_0 (zwp_mono (c18y hl.m (by omega) hj) (fun o t h => ?_))
    obtain ⟨rfl, rfl⟩ := h
    obtain ⟨a1, a2, a3, a4, a5, a6⟩ := hl.pg (p := j) (by omega)
    refine w11_5 ⟨fun z => absurd z i01, fun _ => ⟨j, rfl, by omega, fun h0 => ?_, fun h0 => ?_, fun h0 => ?_, fun h0 => ?_, fun h0 => ?_, fun h0 => ?_, fun h0 h1 h2 h3 h4 h5 => ?_⟩⟩
    · subst h0
      refine zwp_mono (c48 hl.pool hw.pool.1 (by omega)) (fun o t h => ?_)
      obtain ⟨rfl, rfl⟩ := h
      exact w11_64 (b2i_br (P := fun v => (Sum.inl (some (Sum.inl v)) : zO) = .inl (some (.inl (qP1 A j (nI 0)))) ∧ (S, d) = (S, d)) ⟨rfl, rfl⟩)
    · subst h0
      rw [a4]
      exact ⟨rfl, rfl⟩
    · subst h0
      rw [a6]
      exact ⟨rfl, rfl⟩
    · subst h0
      rw [a5]
      exact b2i_br (P := fun v => (Sum.inl (some (Sum.inl v)) : zO) = .inl (some (.inl (qP1 A j (nI 3)))) ∧ (S, d) = (S, d)) ⟨rfl, rfl⟩
    · subst h0
      rw [a1]
      exact ⟨rfl, rfl⟩
    · subst h0
      rw [a2]
      exact ⟨rfl, rfl⟩
    · refine ⟨?_, rfl⟩
      unfold qP1
      rw [if_neg h0, if_neg h1, if_neg h2, if_neg h3, if_neg h4, if_neg h5]
  · rw [ifx_n hx]
    refine w11_0 (zwp_mono (c18n hl.m hx) (fun o t h => ?_))
    obtain ⟨rfl, rfl⟩ := h
    exact w11_5 ⟨fun _ => ⟨rfl, rfl⟩, fun z => absurd i00 z⟩
-- Contents.headAt, tailAt
def cHd (c : aCon) (x : Int32) : Int32 := if x < 0 ∨ nI c.2.1.length ≤ x then zint (-1) else nI (c.2.1.getD x.toNatClampNeg 0)
def cTl (c : aCon) (x : Int32) : Int32 := if x < 0 ∨ nI c.2.2.length ≤ x then zint (-1) else c.2.2.getD x.toNatClampNeg 0
theorem c66 {p : Nat} {c : aCon} {x : Int32} (hl : lcon S p c) (hw : wcon c) : zwp 66 (0, zent 66 [.inr (some (12, p)), .inl x], [], (S, d)) (fun o t => o = .inl (some (.inl (cHd c x))) ∧ t = (S, d)) := by
  have hn := hw.1
  unfold cHd
  rcases ixc (n := c.2.1.length) (by omega) x with ⟨j, hj, rfl⟩ | hx
  · rw [ifx_y (by omega) hj, nI_clamp (by omega)]
    obtain ⟨v, hv⟩ := lget hj
    refine w66_0 ⟨fun z => absurd z (nI_pos (by omega)), fun _ => ⟨fun z => absurd z (by rw [hl.2.1]; exact nI_ge hj (by omega)), fun _ => ⟨j, rfl, by omega, ?_, rfl⟩⟩⟩
    rw [hl.2.2.1 j v hv, List.getD_eq_getElem?_getD, hv]
    rfl
  · rw [ifx_n hx]
    refine w66_0 ⟨fun _ => ⟨rfl, rfl⟩, fun h0 => ⟨fun _ => ⟨rfl, rfl⟩, fun h1 => ?_⟩⟩
    rw [hl.2.1] at h1
    exact (hx.elim h0 h1).elim
theorem c67 {p : Nat} {c : aCon} {x : Int32} (hl : lcon S p c) (hw : wcon c) : zwp 67 (0, zent 67 [.inr (some (12, p)), .inl x], [], (S, d)) (fun o t => o = .inl (some (.inl (cTl c x))) ∧ t = (S, d)) := by
  have hn := hw.1
  have hlen := hw.2.2.1
  have key : zwp 67 (20, [some (.inr (some (12, p))), some (.inl x), none], [.inl (nI c.2.2.length)], (S, d)) (fun o t => o = .inl (some (.inl (cTl c x))) ∧ t = (S, d)) := by
    unfold cTl
    rcases ixc (n := c.2.2.length) (by omega) x with ⟨j, hj, rfl⟩ | hx
    · rw [ifx_y (by omega) hj, nI_clamp (by omega)]
      obtain ⟨v, hv⟩ := lget hj
      refine w67_20 ⟨fun z => absurd z (nI_pos (by omega)), fun _ => ⟨fun z => absurd z (nI_ge hj (by omega)), fun _ => ⟨j, rfl, by omega, ?_, rfl⟩⟩⟩
      rw [hl.2.2.2 j v hv, List.getD_eq_getElem?_getD, hv]
      rfl
    · rw [ifx_n hx]
      exact w67_20 ⟨fun _ => ⟨rfl, rfl⟩, fun h0 => ⟨fun _ => ⟨rfl, rfl⟩, fun h1 => (hx.elim h0 h1).elim⟩⟩
  refine w67_0 ⟨fun h0 => ?_, fun h0 => ?_⟩
  · rw [hl.1, b2i_0] at h0
    rw [h0, if_neg (by decide), Nat.sub_zero] at hlen
    rw [hl.2.1, ← hlen]
    exact key
  · rw [hl.1, b2i_0] at h0
    have hb : c.1 = true := by
      cases hb : c.1 with
      | true => rfl
      | false => exact absurd hb h0
    have h1 := hw.2.2.2 hb
    rw [hb, if_pos rfl] at hlen
    rw [hl.2.1, nI_dec h1, ← hlen]
    exact key
def qS1 (c : aCon) (x : Int32) : Int32 := if x < 0 then zint (-1) else if x = 0 then b2i c.1 else if x = nI 1 then nI c.2.1.length else if nI 6 ≤ x then cTl c (x - nI 2 - nI 4) else cHd c (x - nI 2)
def qSh (A : aSt) (x y : Int32) : Int32 := if x < 0 ∨ nI (gM A) ≤ x then zint (-1) else qS1 (gC A x.toNatClampNeg) y
theorem k12 {x y : Int32} (hl : lkC S d sl A) (hw : wA A) (hM : gM A ≤ 40) : zwp 12 (0, zent 12 [.inr (some (0, 0)), .inl x, .inl y], [], (S, d)) (fun o t => o = .inl (some (.inl (qSh A x y))) ∧ t = (S, d)) := by
  unfold qSh
  rcases ixc (n := gM A) (by omega) x with ⟨j, hj, rfl⟩ | hx
  · rw [ifx_y (by omega) hj, nI_clamp (by omega)]
    refine w12_0 (zwp_mono (c18y hl.m (by omega) hj) (fun o t h => ?_))
    obtain ⟨rfl, rfl⟩ := h
    have hc := hl.con (p := j) (by omega)
    have hwc := hw.con j
    unfold qS1
    refine w12_5 ⟨fun z => absurd z i01, fun _ => ⟨fun hy => ⟨j, rfl, by omega, fun h0 => ?_, fun h0 => ⟨fun h1 => ?_, fun h1 => ⟨fun h6 => ?_, fun h6 => ?_⟩⟩⟩, fun hy => ?_⟩⟩
    · have hy : ¬ y < 0 := Int32.not_lt.mpr hy
      rw [if_neg hy, if_pos h0, hc.1]
      exact b2i_br (P := fun v => (Sum.inl (some (Sum.inl v)) : zO) = .inl (some (.inl (b2i (gC A j).1))) ∧ (S, d) = (S, d)) ⟨rfl, rfl⟩
    · have hy : ¬ y < 0 := Int32.not_lt.mpr hy
      rw [if_neg hy, if_neg h0, if_pos h1, hc.2.1]
      exact ⟨rfl, rfl⟩
    · have hy : ¬ y < 0 := Int32.not_lt.mpr hy
      rw [if_neg hy, if_neg h0, if_neg h1, if_pos h6]
      refine zwp_mono (c67 hc hwc) (fun o t h => ?_)
      obtain ⟨rfl, rfl⟩ := h
      exact w12_76 ⟨rfl, rfl⟩
    · have hy : ¬ y < 0 := Int32.not_lt.mpr hy
      rw [if_neg hy, if_neg h0, if_neg h1, if_neg h6]
      refine zwp_mono (c66 hc hwc) (fun o t h => ?_)
      obtain ⟨rfl, rfl⟩ := h
      exact w12_64 (w12_76 ⟨rfl, rfl⟩)
    · have hy : y < 0 := Int32.not_le.mp hy
      rw [if_pos hy]
      exact ⟨rfl, rfl⟩
  · rw [ifx_n hx]
    refine w12_0 (zwp_mono (c18n hl.m hx) (fun o t h => ?_))
    obtain ⟨rfl, rfl⟩ := h
    exact w12_5 ⟨fun _ => ⟨rfl, rfl⟩, fun z => absurd i00 z⟩
def qCo (A : aSt) (sr : Nat) (lo : Nat) (w : Int32) : Int32 := if w = nI 0 then nI (gM A) else if w = nI 1 then nI (gN A) else if w = nI 2 then nI (gFo A) else if w = nI 3 then (gCt A).1 else if w = nI 4 then (gCt A).2.1 else if w = nI 5 then (gCt A).2.2.1 else if w = nI 6 then (gCt A).2.2.2 else if w = nI 7 then nI lo else if w = nI 8 then nI sr else zint (-1)
theorem k13 {w : Int32} {sr : Nat} {ls : Nat → Nat} (hl : lkC S d sl A) (hsr : S 6 0 0 = nI sr) (hlo : llos S ls) (hwl : wlos ls) : zwp 13 (0, zent 13 [.inr (some (0, 0)), .inl w], [], (S, d)) (fun o t => o = .inl (some (.inl (qCo A sr (ccl ls 40 (lla ls 0 40)) w))) ∧ t = (S, d)) := by
  obtain ⟨b1, b2, b3, b4⟩ := hl.ct
  have hg := hl.log
  refine w13_0 ⟨fun h => ?_, fun h => ?_, fun h => ?_, fun h => ?_, fun h => ?_, fun h => ?_, fun h => ?_, fun h => ?_, fun h => ?_, fun h0 h1 h2 h3 h4 h5 h6 h7 h8 => ?_⟩
  · subst h
    rw [hl.m]
    exact ⟨rfl, rfl⟩
  · subst h
    rw [hg.1]
    exact ⟨rfl, rfl⟩
  · subst h
    rw [hg.2.1]
    exact ⟨rfl, rfl⟩
  · subst h
    rw [b1]
    exact ⟨rfl, rfl⟩
  · subst h
    rw [b2]
    exact ⟨rfl, rfl⟩
  · subst h
    rw [b3]
    exact ⟨rfl, rfl⟩
  · subst h
    rw [b4]
    exact ⟨rfl, rfl⟩
  · subst h
    refine zwp_mono (c61 hlo hwl) (fun o t h => ?_)
    obtain ⟨rfl, rfl⟩ := h
    exact w13_100 ⟨rfl, rfl⟩
  · subst h
    rw [hsr]
    exact ⟨rfl, rfl⟩
  · refine ⟨?_, rfl⟩
    unfold qCo
    rw [if_neg h0, if_neg h1, if_neg h2, if_neg h3, if_neg h4, if_neg h5, if_neg h6, if_neg h7, if_neg h8]
def qR1 (r : aRec) (pr : Nat) (w : Int32) : Int32 := if w = nI 0 then nI (rK r) else if w = nI 1 then (if rK r < 6 then nI (rP r) else zint (-1)) else if w = nI 2 then (if rK r < 6 then nI pr else zint (-1)) else if w = nI 3 then nI (rW r) else if w = nI 4 then nI (rU r) else zint (-1)
def qRe (A : aSt) (x w : Int32) : Int32 := if x < nI 1 ∨ nI (gN A) < x then zint (-1) else qR1 (gL A x.toNatClampNeg) (lat (gL A) (rP (gL A x.toNatClampNeg)) (x.toNatClampNeg - 1)) w
end LOOK
section LOOK2
variable {S : zS} {d sl : Nat} {A : aSt}
theorem ixr {n : Nat} (hn : n < 2 ^ 31 - 1) {x : Int32} (h1 : ¬ x < nI 1) (h2 : ¬ nI n < x) : ∃ j, 1 ≤ j ∧ j ≤ n ∧ x = nI j := by
  rw [Int32.lt_iff_toInt_lt, nI_toInt (by decide)] at h1
  rw [Int32.lt_iff_toInt_lt, nI_toInt (by omega)] at h2
  refine ⟨x.toInt.toNat, by omega, by omega, ?_⟩
  apply Int32.toInt_inj.mp
  rw [nI_toInt (by omega)]
  omega
theorem k14 {x w : Int32} (hl : lkC S d sl A) (hw : wA A) : zwp 14 (0, zent 14 [.inr (some (0, 0)), .inl x, .inl w], [], (S, d)) (fun o t => o = .inl (some (.inl (qRe A x w))) ∧ t = (S, d)) := by
  have hn := hw.n
  have hg := hl.log
  unfold qRe
  by_cases h1 : x < nI 1
  · rw [if_pos (Or.inl h1)]
    exact w14_0 ⟨fun _ => ⟨rfl, rfl⟩, fun z => absurd h1 z⟩
  · by_cases h2 : nI (gN A) < x
    · rw [if_pos (Or.inr h2)]
      exact w14_0 ⟨fun _ => ⟨rfl, rfl⟩, fun _ => ⟨fun z => absurd (by rw [hg.1] at z; exact z) (Int32.not_le.mpr h2), fun _ => ⟨rfl, rfl⟩⟩⟩
    · rw [if_neg (fun z => z.elim h1 h2)]
      obtain ⟨j, j1, j2, rfl⟩ := ixr (by omega) h1 h2
      rw [nI_clamp (by omega)]
      obtain ⟨⟨a1, a2, a3, a4, a5, a6, a7⟩, -, -⟩ := hg.2.2.2.2.2 j j1 j2
      have hd := hg.2.2.2.1
      refine w14_0 ⟨fun z => absurd z h1, fun _ => ⟨fun _ => ⟨j, rfl, by omega, ⟨j1, by omega⟩, fun h => ?_, fun h => ?_, fun h => ?_, fun h => ?_, fun h => ?_, fun q0 q1 q2 q3 q4 => ?_⟩, fun z => absurd (by rw [hg.1]; exact Int32.not_lt.mp h2) z⟩⟩
      · subst h
        rw [a2]
        exact ⟨rfl, rfl⟩
      · subst h
        rw [a3]
        exact ⟨rfl, rfl⟩
      · subst h
        rw [a4]
        exact ⟨rfl, rfl⟩
      · subst h
        rw [a5]
        exact ⟨rfl, rfl⟩
      · subst h
        rw [a6]
        exact ⟨rfl, rfl⟩
      · refine ⟨?_, rfl⟩
        unfold qR1
        rw [if_neg q0, if_neg q1, if_neg q2, if_neg q3, if_neg q4]
-- serials and locks: serial by place, latest serial, calls that let the log grow
def lser (S : zS) (sr : Nat → Nat) : Prop := ∀ j, j < 4 → S 960 0 j = nI (sr j)
def qLo (sr : Nat → Nat) (hd : Nat → Nat → Nat) (x y : Int32) : Int32 := if x < 0 ∨ nI 4 ≤ x then zint (-1) else if y < 0 ∨ nI 40 ≤ y then zint (-1) else if sr x.toNatClampNeg = 0 then zint (-1) else nI (hd x.toNatClampNeg y.toNatClampNeg)
theorem k15 {x y : Int32} {sr : Nat → Nat} {hd : Nat → Nat → Nat} (hs : lser S sr) (hh : lheld S hd) (hsr : ∀ j, sr j < 2000) : zwp 15 (0, zent 15 [.inr (some (0, 0)), .inl x, .inl y], [], (S, d)) (fun o t => o = .inl (some (.inl (qLo sr hd x y))) ∧ t = (S, d)) := by
  unfold qLo
  rcases ixc (n := 4) (by decide) x with ⟨j, hj, rfl⟩ | hx
  · rw [ifx_y (by decide) hj]
    refine w15_0 (zwp_mono (c16y hj) (fun o t h => ?_))
    obtain ⟨rfl, rfl⟩ := h
    refine w15_4 ⟨fun z => absurd z i01, fun _ => ?_⟩
    rcases ixc (n := 40) (by decide) y with ⟨k, hk, rfl⟩ | hy
    · rw [ifx_y (by decide) hk, nI_clamp (n := j) (by omega), nI_clamp (n := k) (by omega)]
      refine zwp_mono (c17y hk) (fun o t h => ?_)
      obtain ⟨rfl, rfl⟩ := h
      have h2 := hsr j
      refine w15_11 ⟨fun z => absurd z i01, fun _ => ⟨j, rfl, hj, fun z => ?_, fun z => ⟨j, rfl, hj, k, rfl, hk, ?_⟩⟩⟩
      · rw [hs j hj, ← nI_0, nI_eq_iff (by omega) (by decide)] at z
        rw [if_pos z]
        exact ⟨rfl, rfl⟩
      · rw [hs j hj, ← nI_0, nI_eq_iff (by omega) (by decide)] at z
        rw [if_neg z, hh j k hj hk]
        exact ⟨rfl, rfl⟩
    · rw [ifx_n hy]
      refine zwp_mono (c17n hy) (fun o t h => ?_)
      obtain ⟨rfl, rfl⟩ := h
      exact w15_11 ⟨fun _ => ⟨rfl, rfl⟩, fun z => absurd i00 z⟩
  · rw [ifx_n hx]
    refine w15_0 (zwp_mono (c16n hx) (fun o t h => ?_))
    obtain ⟨rfl, rfl⟩ := h
    exact w15_4 ⟨fun _ => ⟨rfl, rfl⟩, fun z => absurd i00 z⟩
-- begin
theorem k0i {x : Int32} (hx : x < 0 ∨ nI 4 ≤ x) : zwp 0 (0, zent 0 [.inr (some (0, 0)), .inl x], [], (S, d)) (fun o t => o = .inr 1 ∧ t = (S, d)) :=
  w0_0 (zwp_mono (c19n hx) (fun o t h => by obtain ⟨rfl, rfl⟩ := h; exact ⟨rfl, rfl⟩))
theorem k0s {j : Nat} (hj : j < 4) (hS : ¬ S 960 0 j = 0) : zwp 0 (0, zent 0 [.inr (some (0, 0)), .inl (nI j)], [], (S, d)) (fun o t => o = .inr 2 ∧ t = (S, d)) :=
  w0_0 (zwp_mono (c19y hj) (fun o t h => by obtain ⟨rfl, rfl⟩ := h; exact w0_4 ⟨j, rfl, hj, fun z => absurd z hS, fun _ => ⟨rfl, rfl⟩⟩))
theorem k0 {j g sr : Nat} (hj : j < 4) (hS : S 960 0 j = 0) (hg : S 7 0 0 = nI g) (hg5 : g < 512) (hsr : S 6 0 0 = nI sr) : zwp 0 (0, zent 0 [.inr (some (0, 0)), .inl (nI j)], [], (S, d)) (fun o t => o = .inl (some (.inl (nI (sr + 1)))) ∧ t = (zu (zu (zu S 7 0 0 (nI (g + 1))) 6 0 0 (nI (sr + 1))) 960 0 j (nI (sr + 1)), d)) := by
  refine w0_0 (zwp_mono (c19y hj) (fun o t h => ?_))
  obtain ⟨rfl, rfl⟩ := h
  refine w0_4 ⟨j, rfl, hj, fun _ => zwp_mono (c22 hg hg5) (fun o t h => ?_), fun z => absurd hS z⟩
  obtain ⟨rfl, rfl⟩ := h
  have h6 : zu S 7 0 0 (nI (g + 1)) 6 0 0 = nI sr := by
    rw [zu_f _ _ (by decide)]
    exact hsr
  refine w0_25 ⟨fun _ => ⟨j, rfl, hj, ?_⟩, fun z => absurd i00 z⟩
  rw [h6, nI_add]
  exact ⟨rfl, rfl⟩
end LOOK2
