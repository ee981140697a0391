/-! Reading and fixing, in the class. -/
theorem lat_is {lg : Nat → aRec} {p : Nat} : ∀ {n : Nat}, 0 < lat lg p n → isPg p (lg (lat lg p n)) = true
  | 0, h => by unfold lat at h; omega
  | n + 1, h => by
    unfold lat at h ⊢
    split
    · assumption
    · rename_i hn
      rw [if_neg hn] at h
      exact lat_is h
theorem cnt_mid {lg : Nat → aRec} {p x : Nat} : ∀ {b : Nat}, lat lg p b ≤ x → x ≤ b → cnt lg p x = cnt lg p b
  | 0, _, h2 => by
    have : x = 0 := by omega
    rw [this]
  | b + 1, h1, h2 => by
    by_cases e : x = b + 1
    · rw [e]
    · unfold lat at h1
      by_cases hp : isPg p (lg (b + 1)) = true
      · rw [if_pos hp] at h1
        omega
      · rw [if_neg hp] at h1
        exact (cnt_mid h1 (by omega)).trans (by rw [cnt, if_neg hp])
theorem cnt_pos {lg : Nat → aRec} {p m : Nat} (h : isPg p (lg m) = true) (h1 : 1 ≤ m) : cnt lg p m = cnt lg p (m - 1) + 1 := by
  obtain ⟨k, rfl⟩ : ∃ k, m = k + 1 := ⟨m - 1, by omega⟩
  rw [cnt, if_pos h]
  rfl
theorem cnt_mono {lg : Nat → aRec} {p a : Nat} : ∀ {b : Nat}, a ≤ b → cnt lg p a ≤ cnt lg p b
  | 0, h => by
    have : a = 0 := by omega
    rw [this]
    exact Nat.le_refl _
  | b + 1, h => by
    by_cases e : a = b + 1
    · rw [e]
      exact Nat.le_refl _
    · have := cnt_mono (lg := lg) (p := p) (a := a) (b := b) (by omega)
      rw [cnt]
      split
      · omega
      · exact this
-- reading a page into the pool
def aLsn (dm : Nat → Bool) (bk : Nat → Option Nat) (im : Nat → Nat) (p : Nat) : Nat := if dm p = true then (bk p).getD 0 else im p
def aRead (A : aSt) (p : Nat) : aSt := match A with
  | (lg, n, fo, im, dm, bk, pl, r, w, e, q) => (lg, n, fo, im, dm, bk, pl, r + nI 1, w, e + nI (cnt lg p n - cnt lg p (aLsn dm bk im p)), if dm p = true then q + nI 1 else q)
theorem aLsn_le {dm : Nat → Bool} {bk : Nat → Option Nat} {im : Nat → Nat} {p n : Nat} (h1 : im p ≤ n) (h2 : ∀ x, bk p = some x → x ≤ n) : aLsn dm bk im p ≤ n := by
  unfold aLsn
  split
  · cases hb : bk p with
    | none => exact Nat.zero_le _
    | some x => exact h2 x hb
  · exact h1
theorem c35 {S : zS} {d sl p : Nat} {A : aSt} (hl : lkC S d sl A) (hw : wA A) (hp : p < 40) : zwp 35 (0, zent 35 [.inr (some (0, 0)), .inl (nI p)], [], (S, d)) (fun o t => ∃ S', o = .inl none ∧ t = (S', d) ∧ lkC S' d sl (aRead A p) ∧ zkp S S') := by
  obtain ⟨lg, n, fo, im, dm, bk, pl, r, w, e, q⟩ := A
  obtain ⟨l1, l2, l3, l4, l5, l6, l7, l8⟩ := id hl
  obtain ⟨h1, h2, h3, h4, h5, h6, h7, h8⟩ := hw
  obtain ⟨a1, a2, a3, a4, a5, a6⟩ := l3 p hp
  obtain ⟨m1, m2, m3, m4, m5, m6⟩ := id l1
  have hlsn := aLsn_le (dm := dm) (bk := bk) (im := im) (p := p) (n := n) (h7 p) (h8 p)
  have hcn := cnt_le lg p n
  -- the loop
  have key : ∀ (S1 : zS), (∀ m, 1 ≤ m → m ≤ n → S1 195 m 0 = S 195 m 0) → S1 706 p 0 = S 706 p 0 → ∀ (Q : zO → zT → Prop), Q (.inl none) (zu S1 10 0 0 (S1 10 0 0 + nI (cnt lg p n - cnt lg p (aLsn dm bk im p))), d) → ∀ (k b m : Nat), m ≤ k → m = lat lg p b → b ≤ n → aLsn dm bk im p ≤ b →
      zwp 35 (57, [some (.inr (some (0, 0))), some (.inl (nI p)), some (.inr (some (11, p))), some (.inl (nI (aLsn dm bk im p))), some (.inl (nI (cnt lg p n - cnt lg p m))), some (.inl (nI m))], [], (S1, d)) Q := by
    intro S1 hs1 hs2 Q hQ k
    induction k with
    | zero =>
      intro b m hk hm hb hlb
      have hm0 : m = 0 := by omega
      have hc : cnt lg p (aLsn dm bk im p) = cnt lg p m := by
        rw [cnt_mid (by omega) hlb, cnt_mid (b := b) (x := m) (by omega) (by omega)]
      refine w35_57 ⟨fun _ => by rw [← hc]; exact hQ, fun hn => ?_⟩
      rw [nI_le_iff (by omega) (by omega)] at hn
      omega
    | succ k ih =>
      intro b m hk hm hb hlb
      have hmb := lat_le lg p b
      by_cases hle : m ≤ aLsn dm bk im p
      · have hc : cnt lg p (aLsn dm bk im p) = cnt lg p m := by
          rw [cnt_mid (by omega) hlb, cnt_mid (b := b) (x := m) (by omega) (by omega)]
        refine w35_57 ⟨fun _ => by rw [← hc]; exact hQ, fun hn => ?_⟩
        rw [nI_le_iff (by omega) (by omega)] at hn
        omega
      · have hpg : isPg p (lg m) = true := by
          rw [hm]
          exact lat_is (by omega)
        have hcp := cnt_pos hpg (by omega)
        have hcm := cnt_mono (lg := lg) (p := p) (a := m) (b := n) (by omega)
        have hrp : rP (lg m) = p ∧ rK (lg m) < 6 := by
          have := of_decide_eq_true hpg
          exact ⟨this.2, this.1⟩
        have hprev : S1 195 m 0 = nI (lat lg p (m - 1)) := by
          rw [hs1 m (by omega) (by omega), (m6 m (by omega) (by omega)).1.2.2.2.1, if_pos hrp.2, hrp.1]
        have hlm := lat_le lg p (m - 1)
        have hc2 : cnt lg p (lat lg p (m - 1)) = cnt lg p (m - 1) := cnt_mid (Nat.le_refl _) hlm
        refine w35_57 ⟨fun hn => ?_, fun _ => ⟨fun hn => ?_, fun _ => ⟨m, rfl, by omega, ⟨by omega, by omega⟩, ?_⟩⟩⟩
        · rw [nI_le_iff (by omega) (by omega)] at hn
          omega
        · rw [hs2, a2, nI_le_iff (by omega) (by omega)] at hn
          omega
        · rw [hprev, nI_add, show cnt lg p n - cnt lg p m + 1 = cnt lg p n - cnt lg p (lat lg p (m - 1)) by omega]
          exact ih (m - 1) (lat lg p (m - 1)) (by omega) rfl (by omega) (by omega)
  have hlat := lat_le lg p n
  have hstart : cnt lg p n - cnt lg p (lat lg p n) = 0 := by
    rw [cnt_mid (Nat.le_refl _) hlat]
    omega
  have link : ∀ S' : zS, (∀ f i j, f ≠ 8 → f ≠ 10 → f ≠ 11 → S' f i j = S f i j) → S' 8 0 0 = r + nI 1 → S' 10 0 0 = e + nI (cnt lg p n - cnt lg p (aLsn dm bk im p)) → S' 11 0 0 = (if dm p = true then q + nI 1 else q) → lkC S' d sl (aRead (lg, n, fo, im, dm, bk, pl, r, w, e, q) p) ∧ zkp S S' := by
    intro S' hk g1 g2 g3
    refine ⟨⟨llog_congr (fun f i j hf => hk f i j (by omega) (by omega) (by omega)) (by rw [hk 66 0 0 (by decide) (by decide) (by decide)]; exact m2) l1, by rw [hk 4 0 0 (by decide) (by decide) (by decide)]; exact l2, fun x hx => lpg_congr (fun f j hf => hk f x j (by omega) (by omega) (by omega)) (l3 x hx), lpool_congr (fun f j hf => hk f 0 j (by omega) (by omega) (by omega)) l4, g1, by rw [hk 9 0 0 (by decide) (by decide) (by decide)]; exact l6, g2, g3⟩, fun f i j hf => hk f i j (by omega) (by omega) (by omega)⟩
  refine w35_0 ⟨p, rfl, hp, fun h0 => ?_, fun h0 => ?_⟩
  · rw [a5, b2i_0] at h0
    have hlsn0 : aLsn dm bk im p = im p := by unfold aLsn; rw [if_neg (by rw [h0]; decide)]
    have := key (zu S 8 0 0 (S 8 0 0 + nI 1)) (fun m _ _ => by rw [zu_f _ _ (by decide)]) (by rw [zu_f _ _ (by decide)]) (fun o t => ∃ S', o = .inl none ∧ t = (S', d) ∧ lkC S' d sl (aRead (lg, n, fo, im, dm, bk, pl, r, w, e, q) p) ∧ zkp S S') ⟨_, rfl, rfl, link _ (fun f i j q1 q2 q3 => by rw [zu_f _ _ q2, zu_f _ _ q1]) (by rw [zu_f _ _ (by decide), zu_self, l5]) (by rw [zu_self, zu_f _ _ (by decide), l7]) (by rw [zu_f _ _ (by decide), zu_f _ _ (by decide), l8, if_neg (by rw [h0]; decide)])⟩ n n (lat lg p n) hlat rfl (Nat.le_refl _) hlsn
    rw [hstart, hlsn0] at this
    rw [a4, a1]
    exact this
  · rw [a5, b2i_0] at h0
    have h0' : dm p = true := by
      cases hd : dm p with
      | true => rfl
      | false => exact absurd hd h0
    have hlsn0 : nI (aLsn dm bk im p) = if S 709 p 0 < nI 0 then nI 0 else S 709 p 0 := by
      unfold aLsn
      rw [if_pos h0', a6]
      cases hb : bk p with
      | none =>
        rw [if_pos (by decide +kernel)]
        rfl
      | some x =>
        have hx := h8 p x hb
        show nI x = if nI x < nI 0 then nI 0 else nI x
        rw [if_neg]
        rw [nI_lt_iff (by omega) (by omega)]
        omega
    have := key (zu (zu S 8 0 0 (S 8 0 0 + nI 1)) 11 0 0 (S 11 0 0 + nI 1)) (fun m _ _ => by rw [zu_f _ _ (by decide), zu_f _ _ (by decide)]) (by rw [zu_f _ _ (by decide), zu_f _ _ (by decide)]) (fun o t => ∃ S', o = .inl none ∧ t = (S', d) ∧ lkC S' d sl (aRead (lg, n, fo, im, dm, bk, pl, r, w, e, q) p) ∧ zkp S S') ⟨_, rfl, rfl, link _ (fun f i j q1 q2 q3 => by rw [zu_f _ _ q2, zu_f _ _ q3, zu_f _ _ q1]) (by rw [zu_f _ _ (by decide), zu_f _ _ (by decide), zu_self, l5]) (by rw [zu_self, zu_f _ _ (by decide), zu_f _ _ (by decide), l7]) (by rw [zu_f _ _ (by decide), zu_self, l8, if_pos h0'])⟩ n n (lat lg p n) hlat rfl (Nat.le_refl _) hlsn
    rw [hstart, hlsn0] at this
    rw [a1]
    exact this
-- fixing
def gP (A : aSt) : List Nat := A.2.2.2.2.2.2.1
def stP (A : aSt) (l : List Nat) : aSt := match A with
  | (lg, n, fo, im, dm, bk, _, r, w, e, q) => (lg, n, fo, im, dm, bk, l, r, w, e, q)
def aFixN (A : aSt) (p : Nat) : aSt := stP (aWin A (aLeave p (gP A))) (aTouch p (gP A))
def aFix (A : aSt) (p : Nat) : aSt := stP (if p ∈ gP A then aWin A (aLeave p (gP A)) else aRead (aWin A (aLeave p (gP A))) p) (aTouch p (gP A))
theorem gP_write {A : aSt} {p : Nat} : gP (aWrite A p) = gP A := rfl
theorem gP_win {A : aSt} {o : Option Nat} : gP (aWin A o) = gP A := by
  unfold aWin
  split
  · rfl
  · split
    · rfl
    · rfl
theorem gP_read {A : aSt} {p : Nat} : gP (aRead A p) = gP A := rfl
theorem wA_read {A : aSt} {p : Nat} (h : wA A) : wA (aRead A p) := h
theorem lkC_pool {S S' : zS} {d sl : Nat} {A : aSt} {l : List Nat} (hl : lkC S d sl A) (hf : zfr S S' ppool) (hp : lpool S' l) : lkC S' d sl (stP A l) := by
  obtain ⟨lg, n, fo, im, dm, bk, pl, r, w, e, q⟩ := A
  obtain ⟨l1, l2, l3, l4, l5, l6, l7, l8⟩ := hl
  have hk : ∀ f i j, f ≠ 257 → f ≠ 320 → S' f i j = S f i j := fun f i j q1 q2 => hf f i j (fun z => by rcases z.1 with z | z <;> omega)
  exact ⟨llog_congr (fun f i j hf => hk f i j (by omega) (by omega)) (by rw [hk 66 0 0 (by decide) (by decide)]; exact l1.2.1) l1, by rw [hk 4 0 0 (by decide) (by decide)]; exact l2, fun x hx => lpg_congr (fun f j hf => hk f x j (by omega) (by omega)) (l3 x hx), hp, by rw [hk 8 0 0 (by decide) (by decide)]; exact l5, by rw [hk 9 0 0 (by decide) (by decide)]; exact l6, by rw [hk 10 0 0 (by decide) (by decide)]; exact l7, by rw [hk 11 0 0 (by decide) (by decide)]; exact l8⟩
theorem zkp_pool {S S' : zS} (hf : zfr S S' ppool) : zkp S S' := zkp.of hf (fun f i z => by rcases z.1 with z | z <;> omega)
theorem lkC.pool {S : zS} {d sl : Nat} {A : aSt} (hl : lkC S d sl A) : lpool S (gP A) := by
  obtain ⟨lg, n, fo, im, dm, bk, pl, r, w, e, q⟩ := A
  exact hl.2.2.2.1
theorem wA.pool {A : aSt} (h : wA A) : wpool (gP A) ∧ ∀ p ∈ gP A, p < 40 := by
  obtain ⟨lg, n, fo, im, dm, bk, pl, r, w, e, q⟩ := A
  exact ⟨h.2.2.2.2.1, h.2.2.2.2.2.1⟩
theorem aLeave_lt {A : aSt} {p x : Nat} (h : wA A) (hx : aLeave p (gP A) = some x) : x < 40 := by
  unfold aLeave at hx
  split at hx
  · cases hx
  · exact h.pool.2 x (List.mem_of_getElem? hx)
theorem c34 {S : zS} {d sl p : Nat} {A : aSt} (hl : lkC S d sl A) (hw : wA A) (hp : p < 40) : zwp 34 (0, zent 34 [.inr (some (0, 0)), .inl (nI p)], [], (S, d)) (fun o t => ∃ S', o = .inl none ∧ t = (S', d) ∧ lkC S' d sl (aFixN A p) ∧ zkp S S') := by
  refine w34_0 (zwp_mono (c50 hl.pool hw.pool.1 (by omega)) (fun o t h => ?_))
  obtain ⟨rfl, rfl⟩ := h
  refine w34_9 (zwp_mono (c36 hl hw (fun x hx => aLeave_lt hw hx)) (fun o t h => ?_))
  obtain ⟨S1, rfl, rfl, k1, z1⟩ := h
  have hw1 := wA_win (o := aLeave p (gP A)) hw
  have hp1 := k1.pool
  rw [gP_win] at hp1
  refine w34_12 (zwp_mono (c51 hp1 hw.pool.1 (by omega)) (fun o t h => ?_))
  obtain ⟨S2, rfl, rfl, f2, g2⟩ := h
  exact w34_21 ⟨S2, rfl, rfl, lkC_pool k1 f2 g2, z1.tr (zkp_pool f2)⟩
theorem c33 {S : zS} {d sl p : Nat} {A : aSt} (hl : lkC S d sl A) (hw : wA A) (hp : p < 40) : zwp 33 (0, zent 33 [.inr (some (0, 0)), .inl (nI p)], [], (S, d)) (fun o t => ∃ S', o = .inl none ∧ t = (S', d) ∧ lkC S' d sl (aFix A p) ∧ zkp S S') := by
  refine w33_0 (zwp_mono (c50 hl.pool hw.pool.1 (by omega)) (fun o t h => ?_))
  obtain ⟨rfl, rfl⟩ := h
  refine w33_9 (zwp_mono (c36 hl hw (fun x hx => aLeave_lt hw hx)) (fun o t h => ?_))
  obtain ⟨S1, rfl, rfl, k1, z1⟩ := h
  have hw1 := wA_win (o := aLeave p (gP A)) hw
  have hp1 := k1.pool
  rw [gP_win] at hp1
  refine w33_12 (zwp_mono (c48 hp1 hw.pool.1 (by omega)) (fun o t h => ?_))
  obtain ⟨rfl, rfl⟩ := h
  refine w33_21 ⟨fun h0 => ?_, fun h0 => ?_⟩
  · rw [b2i_0] at h0
    have hni := of_decide_eq_false h0
    refine zwp_mono (c35 k1 hw1 hp) (fun o t h => ?_)
    obtain ⟨S2, rfl, rfl, k2, z2⟩ := h
    have hp2 := k2.pool
    rw [gP_read, gP_win] at hp2
    refine w33_29 (zwp_mono (c51 hp2 hw.pool.1 (by omega)) (fun o t h => ?_))
    obtain ⟨S3, rfl, rfl, f3, g3⟩ := h
    refine w33_37 ⟨S3, rfl, rfl, ?_, (z1.tr z2).tr (zkp_pool f3)⟩
    unfold aFix
    rw [if_neg hni]
    exact lkC_pool k2 f3 g3
  · rw [b2i_0] at h0
    have hi : p ∈ gP A := by
      by_cases hi : p ∈ gP A
      · exact hi
      · exact absurd (decide_eq_false hi) h0
    refine w33_29 (zwp_mono (c51 hp1 hw.pool.1 (by omega)) (fun o t h => ?_))
    obtain ⟨S3, rfl, rfl, f3, g3⟩ := h
    refine w33_37 ⟨S3, rfl, rfl, ?_, z1.tr (zkp_pool f3)⟩
    unfold aFix
    rw [if_pos hi]
    exact lkC_pool k1 f3 g3
