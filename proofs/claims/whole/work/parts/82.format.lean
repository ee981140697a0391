/-! The reference: new pages, FORMAT. -/
theorem zu_same {S : zS} {f i j : Nat} {v : Int32} (h : S f i j = v) : zu S f i j v = S := by
  funext f' i' j'
  unfold zu
  split
  · rename_i e
    rw [e.1, e.2.1, e.2.2]
    exact h.symm
  · rfl
theorem zu_zu {S : zS} {f i j : Nat} {v w : Int32} : zu (zu S f i j v) f i j w = zu S f i j w := by
  funext f' i' j'
  unfold zu
  split <;> rfl
theorem gM_win {A : aSt} {o : Option Nat} : gM (aWin A o) = gM A := by
  unfold gM
  rw [log_win.1, log_win.2]
theorem gM_stP {A : aSt} {l : List Nat} : gM (stP A l) = gM A := rfl
theorem win_at {A : aSt} {o : Option Nat} {p : Nat} (h : o ≠ some p) : gIm (aWin A o) p = gIm A p ∧ gDm (aWin A o) p = gDm A p ∧ gBk (aWin A o) p = gBk A p := by
  unfold aWin
  split
  · exact ⟨rfl, rfl, rfl⟩
  · rename_i a
    have hp : p ≠ a := fun e => h (by rw [e])
    split
    · obtain ⟨lg, n, fo, im, dm, bk, pl, r, w, e, q⟩ := A
      show upN im a _ p = im p ∧ upB dm a false p = dm p ∧ bk p = bk p
      unfold upN upB
      rw [if_neg hp, if_neg hp]
      exact ⟨rfl, rfl, rfl⟩
    · exact ⟨rfl, rfl, rfl⟩
theorem lv6_in {l : List Nat} {p : Nat} (h : lv6 l = some p) : p ∈ l := by
  unfold lv6 at h
  split at h
  · cases h
  · exact List.mem_of_getElem? h
section RN
variable {S : zS} {d ck m : Nat} {A : aSt}
theorem r87 (hl : lkM S ck A) (hw : wA A) (hwh : whl A) (hck : ck + 1 < 2 ^ 31) (hm : gM A < 48) (hnp : gM A ∉ gP A) (him : gIm A (gM A) = 0) (hdm : gDm A (gM A) = false) : zwp 87 (0, zent 87 [.inr (some (16, 0))], [], (S, d)) (fun o t => ∃ S', o = .inl (some (.inl (nI (gM A)))) ∧ t = (S', d) ∧ zfr S S' pmm ∧ lkN S' (ck + 1) (gM A + 1) (aFixN A (gM A))) := by
  have e0 : aFixN A (gM A) = stP (stP (aWin A (lv6 (gP A))) (dr6 (gP A))) (dr6 (gP A) ++ [gM A]) := by
    unfold aFixN aTouch
    rw [lv6_e hnp, dr6_e hnp hw.pool.1.1]
    generalize aWin A (lv6 (gP A)) = B
    obtain ⟨lg, n, fo, im, dm, bk, pl, r, w, e, q⟩ := B
    rfl
  refine w87_0 (zwp_mono (r85 hl hw hwh (by omega)) (fun o t h => ?_))
  obtain ⟨S1, rfl, rfl, f1, g1⟩ := h
  have hM1 : gM (stP (aWin A (lv6 (gP A))) (dr6 (gP A))) = gM A := gM_win
  have hat := win_at (A := A) (o := lv6 (gP A)) (p := gM A) (fun z => hnp (lv6_in z))
  have him1 : gIm (stP (aWin A (lv6 (gP A))) (dr6 (gP A))) (gM A) = 0 := hat.1.trans him
  have hdm1 : gDm (stP (aWin A (lv6 (gP A))) (dr6 (gP A))) (gM A) = false := hat.2.1.trans hdm
  have hnd : gM A ∉ dr6 (gP A) := fun z => hnp (dr6_sub z)
  have hgp : gP (stP (aWin A (lv6 (gP A))) (dr6 (gP A))) = dr6 (gP A) := rfl
  generalize dr6 (gP A) = l6 at hnd hgp e0 g1 hM1 him1 hdm1
  generalize stP (aWin A (lv6 (gP A))) l6 = B at hgp e0 g1 hM1 him1 hdm1
  rw [e0]
  have h38 : S1 1038 0 0 = nI (gM A) := by
    rw [← hM1]
    exact g1.m
  have h43 := g1.clk.1
  obtain ⟨a1, a2, a3⟩ := g1.pg hm
  rw [him1] at a1
  rw [hdm1] at a2
  have hpl : mpool (zu (zu S1 1043 0 0 (nI (ck + 1))) 1728 0 (gM A) (nI (ck + 1))) (l6 ++ [gM A]) (ck + 1) := by
    have := mpool_new (p := gM A) g1.clk hm (by rw [hgp]; exact hnd)
    rw [hgp] at this
    exact this
  have hT := lkM_tick (p := gM A) (v := nI (ck + 1)) g1 rfl hpl
  have t1 : zu (zu S1 1043 0 0 (nI (ck + 1))) 1728 0 (gM A) (nI (ck + 1)) 1792 0 (gM A) = nI 0 := by
    rw [zu_f _ _ (by decide), zu_f _ _ (by decide)]
    exact a1
  have t2 : zu (zu S1 1043 0 0 (nI (ck + 1))) 1728 0 (gM A) (nI (ck + 1)) 1856 0 (gM A) = nI 0 := by
    rw [zu_f _ _ (by decide), zu_f _ _ (by decide)]
    exact a2
  have t3 : zu (zu S1 1043 0 0 (nI (ck + 1))) 1728 0 (gM A) (nI (ck + 1)) 1038 0 0 = nI (gM A) := by
    rw [zu_f _ _ (by decide), zu_f _ _ (by decide)]
    exact h38
  refine w87_4 ⟨gM A, h38, hm, gM A, h38, hm, gM A, h38, hm, ?_⟩
  rw [h43, h38, nI_add, nI_add, nar0, nI_sub2 (by omega), Nat.add_sub_cancel, zu_same t1, zu_same t2]
  refine ⟨_, rfl, rfl, fun f i j h => ?_, zu_self _ _ _ _ _, ?_⟩
  · rw [zu_f _ _ (fun z => h (by show _ ∨ _; omega)), zu_f _ _ (fun z => h (by show _ ∨ _; omega)), zu_f _ _ (fun z => h (by show _ ∨ _; omega))]
    exact f1 f i j h
  · rw [zu_zu, gM_stP, hM1, zu_same t3]
    exact hT
-- FORMAT of a half of what was looked at
theorem half_get {c : aCon} {a i : Nat} {h : Nat} (hi : (cHalf c a).2.1[i]? = some h) : i < 2 ∧ c.2.1[a + i]? = some h := by
  have hi' : ((c.2.1.drop a).take 2)[i]? = some h := hi
  rw [List.getElem?_take] at hi'
  by_cases e : i < 2
  · rw [if_pos e, List.getElem?_drop] at hi'
    exact ⟨e, hi'⟩
  · rw [if_neg e] at hi'
    cases hi'
theorem half_get2 {c : aCon} {a i : Nat} {v : Int32} (hi : (cHalf c a).2.2[i]? = some v) : i < 2 ∧ c.2.2[a + i]? = some v := by
  have hi' : ((c.2.2.drop a).take (if c.1 = true then 1 else 2))[i]? = some v := hi
  rw [List.getElem?_take] at hi'
  by_cases e : i < (if c.1 = true then 1 else 2)
  · rw [if_pos e, List.getElem?_drop] at hi'
    refine ⟨?_, hi'⟩
    split at e <;> omega
  · rw [if_neg e] at hi'
    cases hi'
theorem r89 {p a L : Nat} {c : aCon} (hl : lkN S ck m A) (hpl : pleg (gL A) (gN A)) (hlk : mlook S c) (h4 : c.2.1.length = 4) (ha : a = 0 ∨ a = 2) (hp : p < 48) (hn : gN A < 1144) (hL1 : gN A + 1 ≤ L) (hL : L < 2000) (hfm : fmts (gL A) (gN A) < 100) (hm : max (gM A) (p + 1) = m) : zwp 89 (0, zent 89 [.inr (some (16, 0)), .inl (nI p), .inl (nI a), .inl (nI (a + 2)), .inl (nI L)], [], (S, d)) (fun o t => ∃ S', o = .inl none ∧ t = (S', d) ∧ zfr S S' pmm ∧ lkM S' ck (aAdd A (aFmt p L (cHalf c a)))) := by
  have h36 := hl.fm
  refine w89_0 (zwp_mono (r88 (K := 3) (p := p) hl.size (by omega) (by decide) (by omega)) (fun o t h => ?_))
  obtain ⟨S1, rfl, rfl, f1, u25, u88, u52, u16, u36, u00⟩ := h
  have s36 : S1 1036 0 0 = nI (fmts (gL A) (gN A)) := by
    rw [f1 _ _ _ (by omega)]
    exact h36
  have s48 : S1 1048 0 0 = b2i c.1 := by
    rw [f1 _ _ _ (by omega)]
    exact hlk.1
  have hlen : (cHalf c a).2.1.length = 2 := by
    show ((c.2.1.drop a).take 2).length = 2
    rw [List.length_take, List.length_drop, h4]
    rcases ha with rfl | rfl <;> rfl
  -- the end
  have fin : ∀ S3 : zS, (∀ f i j, f ≠ 1664 → f ≠ 1600 → f ≠ 1344 → S3 f i j = S1 f i j) → (∀ f j, (f = 1600 ∨ f = 1344) → j ≠ gN A + 1 → S3 f 0 j = S1 f 0 j) → (∀ f i j, (f = 1600 ∨ f = 1344 ∨ f = 1664) → i ≠ 0 → S3 f i j = S1 f i j) → S3 1600 0 (gN A + 1) = nI L → S3 1344 0 (gN A + 1) = nI (fmts (gL A) (gN A)) → (∀ j, j < 10 * fmts (gL A) (gN A) → S3 1664 0 j = S1 1664 0 j) → mfm S3 (fmts (gL A) (gN A)) (cHalf c a) → ∃ S', (zu S3 1036 0 0 (S3 1036 0 0 + nI 1)) = S' ∧ zfr S S' pmm ∧ lkM S' ck (aAdd A (aFmt p L (cHalf c a))) := by
    intro S3 q1 q2 q3 q4 q5 q6 q7
    have t36 : S3 1036 0 0 = nI (fmts (gL A) (gN A)) := (q1 _ _ _ (by decide) (by decide) (by decide)).trans s36
    have hfmt : fmts (upL (gL A) (gN A + 1) (aFmt p L (cHalf c a))) (gN A + 1) = fmts (gL A) (gN A) + 1 := by
      rw [fmts, upL_self, if_pos (show rK (aFmt p L (cHalf c a)) = 3 from rfl), fmts_congr (lg := gL A) (fun i z1 z2 => up_pre z2)]
    have kz : ∀ f i j, f ≠ 1036 → zu S3 1036 0 0 (S3 1036 0 0 + nI 1) f i j = S3 f i j := fun f i j z => zu_f _ _ z
    refine ⟨_, rfl, fun f i j h => ?_, lkM_add hl hpl (fun f i j h => ?_) ?_ ?_ ?_ ?_ ?_⟩
    · rw [kz _ _ _ (fun z => h (by show _ ∨ _; omega)), q1 f i j (fun z => h (by show _ ∨ _; omega)) (fun z => h (by show _ ∨ _; omega)) (fun z => h (by show _ ∨ _; omega))]
      exact f1 f i j (fun z => h (by show _ ∨ _; omega))
    · rw [kz _ _ _ (fun z => h (by omega))]
      by_cases hi : i = 0
      · subst hi
        by_cases e1 : f = 1664
        · subst e1
          rw [q6 j (by omega)]
          exact f1 _ _ _ (by omega)
        · by_cases e2 : f = 1600 ∨ f = 1344
          · rw [q2 f j e2 (fun z => h (by omega))]
            exact f1 _ _ _ (fun z => h (by omega))
          · rw [q1 f 0 j e1 (fun z => e2 (Or.inl z)) (fun z => e2 (Or.inr z))]
            exact f1 _ _ _ (fun z => h (by omega))
      · by_cases e2 : f = 1600 ∨ f = 1344 ∨ f = 1664
        · rw [q3 f i j e2 hi]
          exact f1 _ _ _ (fun z => h (by omega))
        · rw [q1 f i j (by omega) (by omega) (by omega)]
          exact f1 _ _ _ (fun z => h (by omega))
    · rw [kz _ _ _ (by decide), q1 _ _ _ (by decide) (by decide) (by decide)]
      exact u25
    · refine ⟨?_, fun _ => ?_, ?_, ?_, L, ?_, hL, ?_⟩
      · rw [kz _ _ _ (by decide), q1 _ _ _ (by decide) (by decide) (by decide)]
        exact u88
      · rw [kz _ _ _ (by decide), q1 _ _ _ (by decide) (by decide) (by decide)]
        exact u52
      · rw [kz _ _ _ (by decide), q1 _ _ _ (by decide) (by decide) (by decide)]
        exact u16
      · rw [kz _ _ _ (by decide), q1 _ _ _ (by decide) (by decide) (by decide)]
        exact u36
      · rw [kz _ _ _ (by decide)]
        exact q4
      · show (if gN A + 1 < L then L else gN A + 1) = L
        split <;> omega
    · unfold mB
      rw [upL_self]
      show zu S3 1036 0 0 (S3 1036 0 0 + nI 1) 1344 0 (gN A + 1) = nI (fmts (upL (gL A) (gN A + 1) (aFmt p L (cHalf c a))) (gN A)) ∧ mfm (zu S3 1036 0 0 (S3 1036 0 0 + nI 1)) (fmts (upL (gL A) (gN A + 1) (aFmt p L (cHalf c a))) (gN A)) (cHalf c a)
      rw [fmts_congr (lg := gL A) (fun i z1 z2 => up_pre z2), kz _ _ _ (by decide)]
      refine ⟨q5, ?_⟩
      obtain ⟨b1, b2, b3, b4⟩ := q7
      exact ⟨(kz _ _ _ (by decide)).trans b1, (kz _ _ _ (by decide)).trans b2, fun i x hx => (kz _ _ _ (by decide)).trans (b3 i x hx), fun i x hx => (kz _ _ _ (by decide)).trans (b4 i x hx)⟩
    · rw [zu_self, t36, nI_add, hfmt]
    · rw [kz _ _ _ (by decide), q1 _ _ _ (by decide) (by decide) (by decide), f1 _ _ _ (by omega), hl.1, pgs, upL_self, if_pos (show rK (aFmt p L (cHalf c a)) < 6 by show 3 < 6; decide), pgs_congr (lg := gL A) (fun i z1 z2 => up_pre z2)]
      show nI m = nI (max (gM A) (p + 1))
      rw [hm]
  -- the loop over the four places
  have lp : ∀ (r k : Nat) (S3 : zS) (x8 : Option zV), k + r = 4 → (∀ f i j, f ≠ 1664 → f ≠ 1600 → f ≠ 1344 → S3 f i j = S1 f i j) → (∀ f j, (f = 1600 ∨ f = 1344) → j ≠ gN A + 1 → S3 f 0 j = S1 f 0 j) → (∀ f i j, (f = 1600 ∨ f = 1344 ∨ f = 1664) → i ≠ 0 → S3 f i j = S1 f i j) → S3 1600 0 (gN A + 1) = nI L → S3 1344 0 (gN A + 1) = nI (fmts (gL A) (gN A)) → (∀ j, j < 10 * fmts (gL A) (gN A) → S3 1664 0 j = S1 1664 0 j) → S3 1664 0 (10 * fmts (gL A) (gN A)) = b2i c.1 → S3 1664 0 (10 * fmts (gL A) (gN A) + 1) = nI 2 → (∀ i, i < k → i < 2 → S3 1664 0 (10 * fmts (gL A) (gN A) + 2 + i) = S 1984 0 (a + i) ∧ S3 1664 0 (10 * fmts (gL A) (gN A) + 6 + i) = S 2048 0 (a + i)) → zwp 89 (72, [some (.inr (some (16, 0))), some (.inl (nI p)), some (.inl (nI a)), some (.inl (nI (a + 2))), some (.inl (nI L)), some (.inl (nI (gN A + 1))), some (.inl (nI (10 * fmts (gL A) (gN A)))), some (.inl (nI k)), x8], [], (S3, d)) (fun o t => ∃ S', o = .inl none ∧ t = (S', d) ∧ zfr S S' pmm ∧ lkM S' ck (aAdd A (aFmt p L (cHalf c a)))) := by
    intro r
    induction r with
    | zero =>
      intro k S3 x8 hk q1 q2 q3 q4 q5 q6 q7 q8 q9
      have hk : k = 4 := by omega
      subst hk
      obtain ⟨S', e1, e2, e3⟩ := fin S3 q1 q2 q3 q4 q5 q6 ⟨q7, by rw [hlen]; exact q8, fun i h hi => by
        obtain ⟨i2, hc⟩ := half_get hi
        rw [(q9 i (by omega) i2).1]
        exact hlk.2.2.1 _ _ hc, fun i v hi => by
        obtain ⟨i2, hc⟩ := half_get2 hi
        rw [(q9 i (by omega) i2).2]
        exact hlk.2.2.2 _ _ hc⟩
      exact w89_72 ⟨fun _ => ⟨S', rfl, by rw [e1], e2, e3⟩, fun z => absurd (Int32.le_refl _) z⟩
    | succ r ih =>
      intro k S3 x8 hk q1 q2 q3 q4 q5 q6 q7 q8 q9
      have h84 : ∀ j, S3 1984 0 j = S 1984 0 j := fun j => (q1 _ _ _ (by decide) (by decide) (by decide)).trans (f1 _ _ _ (by omega))
      have h48 : ∀ j, S3 2048 0 j = S 2048 0 j := fun j => (q1 _ _ _ (by decide) (by decide) (by decide)).trans (f1 _ _ _ (by omega))
      have nx : ∀ (y z : Int32) (x8 : Option zV), (k < 2 → y = S 1984 0 (a + k) ∧ z = S 2048 0 (a + k)) → zwp 89 (72, [some (.inr (some (16, 0))), some (.inl (nI p)), some (.inl (nI a)), some (.inl (nI (a + 2))), some (.inl (nI L)), some (.inl (nI (gN A + 1))), some (.inl (nI (10 * fmts (gL A) (gN A)))), some (.inl (nI k + nI 1)), x8], [], (zu (zu S3 1664 0 (10 * fmts (gL A) (gN A) + 2 + k) y) 1664 0 (10 * fmts (gL A) (gN A) + 6 + k) z, d)) (fun o t => ∃ S', o = .inl none ∧ t = (S', d) ∧ zfr S S' pmm ∧ lkM S' ck (aAdd A (aFmt p L (cHalf c a)))) := by
        intro y z x8 hyz
        rw [nI_add]
        refine ih (k + 1) _ x8 (by omega) (fun f i j z1 z2 z3 => ?_) (fun f j z1 z2 => ?_) (fun f i j z1 z2 => ?_) ?_ ?_ (fun j hj => ?_) ?_ ?_ (fun i hi hi2 => ?_)
        · rw [zu_f _ _ z1, zu_f _ _ z1]
          exact q1 f i j z1 z2 z3
        · rw [zu_f _ _ (by omega), zu_f _ _ (by omega)]
          exact q2 f j z1 z2
        · rw [zu_i _ _ z2, zu_i _ _ z2]
          exact q3 f i j z1 z2
        · rw [zu_f _ _ (by decide), zu_f _ _ (by decide)]
          exact q4
        · rw [zu_f _ _ (by decide), zu_f _ _ (by decide)]
          exact q5
        · rw [zu_j _ _ (by omega), zu_j _ _ (by omega)]
          exact q6 j hj
        · rw [zu_j _ _ (by omega), zu_j _ _ (by omega)]
          exact q7
        · rw [zu_j _ _ (by omega), zu_j _ _ (by omega)]
          exact q8
        · by_cases e : i = k
          · subst e
            obtain ⟨y1, y2⟩ := hyz hi2
            exact ⟨by rw [zu_j _ _ (by omega), zu_self]; exact y1, by rw [zu_self]; exact y2⟩
          · obtain ⟨y1, y2⟩ := q9 i (by omega) hi2
            exact ⟨by rw [zu_j _ _ (by omega), zu_j _ _ (by omega)]; exact y1, by rw [zu_j _ _ (by omega), zu_j _ _ (by omega)]; exact y2⟩
      refine w89_72 ⟨fun z => ?_, fun _ => ⟨fun z => ?_, fun z => ?_⟩⟩
      · rw [nI_le_iff (by decide) (by omega)] at z
        omega
      · rw [nI_add, nI_le_iff (by omega) (by omega)] at z
        refine w89_91 ⟨fun _ => w89_122 ⟨10 * fmts (gL A) (gN A) + 2 + k, by rw [nI_add, nI_add], by omega, fun _ => ⟨10 * fmts (gL A) (gN A) + 6 + k, by rw [nI_add, nI_add], by omega, nx _ _ _ (fun z => by omega)⟩, fun z => absurd i00 z⟩, fun z => absurd i00 z⟩
      · rw [nI_add, nI_le_iff (by omega) (by omega)] at z
        refine w89_91 ⟨fun z => absurd z i01, fun _ => ⟨a + k, nI_add _ _, by omega, w89_122 ⟨10 * fmts (gL A) (gN A) + 2 + k, by rw [nI_add, nI_add], by omega, fun z => absurd z i01, fun _ => ⟨a + k, nI_add _ _, by omega, 10 * fmts (gL A) (gN A) + 6 + k, by rw [nI_add, nI_add], by omega, nx _ _ _ (fun _ => ⟨h84 _, h48 _⟩)⟩⟩⟩⟩
  have st : ∀ y0 : Int32, y0 = b2i c.1 → zwp 89 (56, [some (.inr (some (16, 0))), some (.inl (nI p)), some (.inl (nI a)), some (.inl (nI (a + 2))), some (.inl (nI L)), some (.inl (nI (gN A + 1))), some (.inl (nI (10 * fmts (gL A) (gN A)))), none, none], [.inl y0, .inl (nI (10 * fmts (gL A) (gN A))), .inr (some (26, 0))], (zu (zu S1 1600 0 (gN A + 1) (nI L)) 1344 0 (gN A + 1) (nI (fmts (gL A) (gN A))), d)) (fun o t => ∃ S', o = .inl none ∧ t = (S', d) ∧ zfr S S' pmm ∧ lkM S' ck (aAdd A (aFmt p L (cHalf c a)))) := by
    intro y0 hy
    refine w89_56 ⟨10 * fmts (gL A) (gN A), rfl, by omega, 10 * fmts (gL A) (gN A) + 1, nI_add _ _, by omega, ?_⟩
    rw [nI_sub2 (by omega), show a + 2 - a = 2 by omega]
    refine lp 4 0 _ none (by omega) (fun f i j z1 z2 z3 => ?_) (fun f j z1 z2 => ?_) (fun f i j z1 z2 => ?_) ?_ ?_ (fun j hj => ?_) ?_ ?_ (fun i hi => by omega)
    · rw [zu_f _ _ z1, zu_f _ _ z1, zu_f _ _ z3, zu_f _ _ z2]
    · rw [zu_f _ _ (by omega), zu_f _ _ (by omega), zu_j _ _ z2, zu_j _ _ z2]
    · rw [zu_i _ _ z2, zu_i _ _ z2, zu_i _ _ z2, zu_i _ _ z2]
    · rw [zu_f _ _ (by decide), zu_f _ _ (by decide), zu_f _ _ (by decide), zu_self]
    · rw [zu_f _ _ (by decide), zu_f _ _ (by decide), zu_self]
    · rw [zu_j _ _ (by omega), zu_j _ _ (by omega), zu_f _ _ (by decide), zu_f _ _ (by decide)]
    · rw [zu_j _ _ (by omega), zu_self, hy]
    · rw [zu_self]
  refine w89_6 ⟨gN A + 1, rfl, by omega, gN A + 1, rfl, by omega, fun h0 => ?_, fun h0 => ?_⟩
  · rw [s48, b2i_0] at h0
    rw [s36, nI_mul, nars (by omega)]
    exact st _ (by rw [h0]; rfl)
  · have h1 : c.1 = true := by
      cases hb : c.1 with
      | true => rfl
      | false => rw [s48, hb] at h0; exact absurd rfl h0
    rw [s36, nI_mul, nars (by omega)]
    exact st _ (by rw [h1]; rfl)
end RN
