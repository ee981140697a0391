/-! The reference: fix. -/
section RX
variable {S : zS} {d ck : Nat} {A : aSt}
theorem mpool_put {pl l' : List Nat} {p : Nat} (h : mpool S pl ck) (hp : p < 48) (hm : ∀ x, x ∈ l' ↔ x ∈ pl ∧ x ≠ p) (ho : ∀ (i j a b : Nat), i < j → l'[i]? = some a → l'[j]? = some b → ∃ i' j' : Nat, i' < j' ∧ pl[i']? = some a ∧ pl[j']? = some b) : mpool (zu (zu S 1043 0 0 (nI (ck + 1))) 1728 0 p (nI (ck + 1))) (l' ++ [p]) (ck + 1) := by
  obtain ⟨p1, fx, p2, p3, p4, p5⟩ := h
  refine ⟨by rw [zu_f _ _ (by decide), zu_self], fun x => if x = p then ck + 1 else fx x, fun x hx => ?_, fun x => ?_, fun x hx => ?_, fun i j a b hij ha hb => ?_⟩
  · dsimp only
    by_cases e : x = p
    · rw [if_pos e, e, zu_self]
    · rw [if_neg e, zu_j _ _ e, zu_f _ _ (by decide)]
      exact p2 x hx
  · dsimp only
    have := p3 x
    split <;> omega
  · dsimp only
    rw [List.mem_append, hm x]
    by_cases e : x = p
    · rw [if_pos e]
      exact ⟨fun _ => Or.inr (by rw [e]; exact List.mem_cons_self), fun _ => Nat.succ_pos _⟩
    · rw [if_neg e, p4 x hx]
      constructor
      · intro h
        exact Or.inl ⟨h, e⟩
      · rintro (h | h)
        · exact h.1
        · simp only [List.mem_cons, List.not_mem_nil, or_false] at h
          exact absurd h e
  · dsimp only
    have hne : ∀ (k x : Nat), l'[k]? = some x → x ≠ p := fun k x hk => ((hm x).mp (List.mem_of_getElem? hk)).2
    have hi : i < l'.length := by
      have := (List.getElem?_eq_some_iff.mp hb).1
      rw [List.length_append, List.length_singleton] at this
      omega
    rw [List.getElem?_append_left hi] at ha
    rw [if_neg (hne i a ha)]
    by_cases hj : j < l'.length
    · rw [List.getElem?_append_left hj] at hb
      rw [if_neg (hne j b hb)]
      obtain ⟨i', j', h1, h2, h3⟩ := ho i j a b hij ha hb
      exact p5 i' j' a b h1 h2 h3
    · rw [List.getElem?_append_right (by omega)] at hb
      have hz : j - l'.length < 1 := (List.getElem?_eq_some_iff.mp hb).1
      rw [show j - l'.length = 0 by omega] at hb
      cases hb
      rw [if_pos rfl]
      have := p3 a
      omega
theorem mpool_new {pl : List Nat} {p : Nat} (h : mpool S pl ck) (hp : p < 48) (hn : p ∉ pl) : mpool (zu (zu S 1043 0 0 (nI (ck + 1))) 1728 0 p (nI (ck + 1))) (pl ++ [p]) (ck + 1) :=
  mpool_put h hp (fun x => ⟨fun hx => ⟨hx, fun e => hn (e ▸ hx)⟩, fun hx => hx.1⟩) (fun i j a b hij ha hb => ⟨i, j, hij, ha, hb⟩)
theorem mpool_old {pl : List Nat} {p : Nat} (h : mpool S pl ck) (hp : p < 48) (hn : p ∈ pl) : mpool (zu (zu S 1043 0 0 (nI (ck + 1))) 1728 0 p (nI (ck + 1))) (pl.eraseIdx (lidx p pl) ++ [p]) (ck + 1) := by
  have hat := (lidx_mem hn).2
  have huniq : ∀ (i : Nat), pl[i]? = some p → i = lidx p pl := by
    intro i hi
    obtain ⟨-, fx, -, -, -, p5⟩ := h
    rcases Nat.lt_trichotomy i (lidx p pl) with hl | hl | hl
    · exact absurd (p5 _ _ _ _ hl hi hat) (Nat.lt_irrefl _)
    · exact hl
    · exact absurd (p5 _ _ _ _ hl hat hi) (Nat.lt_irrefl _)
  refine mpool_put h hp (fun x => ?_) (fun i j a b hij ha hb => ?_)
  · constructor
    · intro hx
      obtain ⟨i, hi⟩ := List.getElem?_of_mem hx
      rw [List.getElem?_eraseIdx] at hi
      by_cases hlt : i < lidx p pl
      · rw [if_pos hlt] at hi
        refine ⟨List.mem_of_getElem? hi, fun e => ?_⟩
        rw [e] at hi
        have := huniq i hi
        omega
      · rw [if_neg hlt] at hi
        refine ⟨List.mem_of_getElem? hi, fun e => ?_⟩
        rw [e] at hi
        have := huniq _ hi
        omega
    · rintro ⟨hx, hne⟩
      obtain ⟨i, hi⟩ := List.getElem?_of_mem hx
      have hiq : i ≠ lidx p pl := fun e => by
        rw [e, hat] at hi
        exact hne (Option.some.inj hi).symm
      by_cases hlt : i < lidx p pl
      · exact List.mem_of_getElem? (i := i) (by rw [List.getElem?_eraseIdx, if_pos hlt]; exact hi)
      · exact List.mem_of_getElem? (i := i - 1) (by rw [List.getElem?_eraseIdx, if_neg (by omega), show i - 1 + 1 = i by omega]; exact hi)
  · rw [List.getElem?_eraseIdx] at ha hb
    by_cases h1 : i < lidx p pl
    · rw [if_pos h1] at ha
      by_cases h2 : j < lidx p pl
      · rw [if_pos h2] at hb
        exact ⟨i, j, hij, ha, hb⟩
      · rw [if_neg h2] at hb
        exact ⟨i, j + 1, by omega, ha, hb⟩
    · rw [if_neg h1] at ha
      rw [if_neg (by omega)] at hb
      exact ⟨i + 1, j + 1, by omega, ha, hb⟩
-- the link behind the clock's step
theorem lkM_tick {p : Nat} {l' : List Nat} {v : Int32} (hl : lkM S ck A) (hv : v = nI (ck + 1)) (hp : mpool (zu (zu S 1043 0 0 (nI (ck + 1))) 1728 0 p (nI (ck + 1))) l' (ck + 1)) : lkM (zu (zu S 1043 0 0 v) 1728 0 p v) (ck + 1) (stP A l') := by
  subst hv
  obtain ⟨lg, n, fo, im, dm, bk, pl, r, w, e, q⟩ := A
  obtain ⟨l1, l2, l3, l4, l5, l6, l7, l8⟩ := hl
  have hk : ∀ f i j, f ≠ 1043 → f ≠ 1728 → zu (zu S 1043 0 0 (nI (ck + 1))) 1728 0 p (nI (ck + 1)) f i j = S f i j := fun f i j q1 q2 => by rw [zu_f _ _ q2, zu_f _ _ q1]
  exact ⟨mlog_congr (fun f i j hf => hk f i j (by omega) (by omega)) (by rw [hk _ _ _ (by decide) (by decide)]; exact l1.2.1) l1, by rw [hk _ _ _ (by decide) (by decide)]; exact l2, fun x hx => mpg_congr (fun f hf => hk f 0 x (by omega) (by omega)) (l3 x hx), hp, by rw [hk _ _ _ (by decide) (by decide)]; exact l5, by rw [hk _ _ _ (by decide) (by decide)]; exact l6, by rw [hk _ _ _ (by decide) (by decide)]; exact l7, by rw [hk _ _ _ (by decide) (by decide)]; exact l8⟩
theorem lkM.clk {S : zS} {ck : Nat} {A : aSt} (h : lkM S ck A) : mpool S (gP A) ck := by
  obtain ⟨lg, n, fo, im, dm, bk, pl, r, w, e, q⟩ := A
  exact h.2.2.2.1
theorem lkM.log {S : zS} {ck : Nat} {A : aSt} (h : lkM S ck A) : mlog S (gL A) (gN A) (gFo A) := by
  obtain ⟨lg, n, fo, im, dm, bk, pl, r, w, e, q⟩ := A
  exact h.1
theorem lkM.pg {S : zS} {ck : Nat} {A : aSt} (h : lkM S ck A) {p : Nat} (hp : p < 48) : mpg S (gIm A) (gDm A) (gBk A) p := by
  obtain ⟨lg, n, fo, im, dm, bk, pl, r, w, e, q⟩ := A
  exact h.2.2.1 p hp
theorem lkM.m {S : zS} {ck : Nat} {A : aSt} (h : lkM S ck A) : S 1038 0 0 = nI (gM A) := by
  obtain ⟨lg, n, fo, im, dm, bk, pl, r, w, e, q⟩ := A
  exact h.2.1
theorem lkM.ct {S : zS} {ck : Nat} {A : aSt} (h : lkM S ck A) : S 1044 0 0 = (gCt A).1 ∧ S 1045 0 0 = (gCt A).2.1 ∧ S 1046 0 0 = (gCt A).2.2.1 ∧ S 1047 0 0 = (gCt A).2.2.2 := by
  obtain ⟨lg, n, fo, im, dm, bk, pl, r, w, e, q⟩ := A
  exact h.2.2.2.2
theorem dr6_sub {l : List Nat} {x : Nat} (h : x ∈ dr6 l) : x ∈ l := by
  unfold dr6 at h
  split at h
  · exact h
  · exact List.mem_of_mem_eraseIdx h
-- the count of what is redone
theorem r86c {Q : zO → zT → Prop} {lg : Nat → aRec} {n fo p lsn : Nat} {x2 e0 : Int32} {S0 : zS} (hl : mlog S0 lg n fo) (hw : wlog lg n) (hp : p < 100) (hlsn : lsn ≤ n) (kk : ∀ (S3 : zS) (x3 : Int32), (∀ f i j, f ≠ 1046 → S3 f i j = S0 f i j) → S3 1046 0 0 = e0 + nI (cnt lg p n - cnt lg p lsn) → zwp 86 (137, [some (.inr (some (16, 0))), some (.inl (nI p)), some (.inl x2), some (.inl x3)], [], (S3, d)) Q) :
    ∀ (m k : Nat) (S2 : zS), k + m = n → lsn ≤ k → (∀ f i j, f ≠ 1046 → S2 f i j = S0 f i j) → S2 1046 0 0 = e0 + nI (cnt lg p k - cnt lg p lsn) → zwp 86 (88, [some (.inr (some (16, 0))), some (.inl (nI p)), some (.inl x2), some (.inl (nI (k + 1)))], [], (S2, d)) Q := by
  have hn := hw.1
  intro m
  induction m with
  | zero =>
    intro k S2 hk hlk hf he
    have hk : k = n := by omega
    subst hk
    refine w86_88 ⟨fun _ => kk S2 _ hf he, fun h => ?_⟩
    rw [hf _ _ _ (by decide), hl.1, nI_lt_iff (by omega) (by omega)] at h
    omega
  | succ m ih =>
    intro k S2 hk hlk hf he
    obtain ⟨⟨a1, a2, -⟩, -⟩ := hl.2.2.2 (k + 1) (by omega) (by omega)
    obtain ⟨b1, b2, -⟩ := hw.2 (k + 1) (by omega) (by omega)
    have hcm := cnt_mono (lg := lg) (p := p) (a := lsn) (b := k) hlk
    have no : isPg p (lg (k + 1)) = false → zwp 86 (88, [some (.inr (some (16, 0))), some (.inl (nI p)), some (.inl x2), some (.inl (nI (k + 1) + nI 1))], [], (zu S2 1046 0 0 (S2 1046 0 0 + nI 0), d)) Q := by
      intro hpg
      rw [nI_add]
      refine ih (k + 1) _ (by omega) (by omega) (fun f i j h => by rw [zu_f _ _ h]; exact hf f i j h) ?_
      rw [zu_self, he, cnt, hpg, if_neg (by decide), nI_0, Int32.add_zero]
    refine w86_88 ⟨fun h => ?_, fun _ => ⟨k + 1, rfl, by omega, fun h6 => ?_, fun h6 => ⟨k + 1, rfl, by omega, fun hpg => ?_, fun hpg => ?_⟩⟩⟩
    · rw [hf _ _ _ (by decide), hl.1, nI_lt_iff (by omega) (by omega)] at h
      omega
    · rw [hf _ _ _ (by decide), a1, nI_le_iff (by decide) (by omega)] at h6
      exact no (isPg_k (by omega))
    · rw [hf _ _ _ (by decide), a1, nI_le_iff (by decide) (by omega)] at h6
      have h6 : rK (lg (k + 1)) < 6 := by omega
      have := b2 h6
      rw [hf _ _ _ (by decide), a2 h6, nI_eq_iff (by omega) (by omega)] at hpg
      rw [nI_add]
      refine ih (k + 1) _ (by omega) (by omega) (fun f i j h => by rw [zu_f _ _ h]; exact hf f i j h) ?_
      rw [zu_self, he, cnt, isPg_t h6 hpg, if_pos rfl, Int32.add_assoc, nI_add]
      congr 2
      omega
    · rw [hf _ _ _ (by decide), a1, nI_le_iff (by decide) (by omega)] at h6
      have h6 : rK (lg (k + 1)) < 6 := by omega
      have := b2 h6
      rw [hf _ _ _ (by decide), a2 h6, nI_eq_iff (by omega) (by omega)] at hpg
      exact no (isPg_p hpg)
theorem r86 {p : Nat} (hl : lkM S ck A) (hw : wA A) (hwh : whl A) (hck : ck + 1 < 2 ^ 31) (hp : p < 40) : zwp 86 (0, zent 86 [.inr (some (16, 0)), .inl (nI p)], [], (S, d)) (fun o t => ∃ S', o = .inl none ∧ t = (S', d) ∧ zfr S S' pmm ∧ lkM S' (ck + 1) (aFix A p)) := by
  obtain ⟨p1, fx, p2, p3, p4, p5⟩ := hl.clk
  have h3 := p3 p
  -- the clock's step
  have tick : ∀ (S1 : zS) (B : aSt) (l' : List Nat) (x2 x3 : Option zV), zfr S S1 pmm → lkM S1 ck B → (lkM S1 ck B → mpool (zu (zu S1 1043 0 0 (nI (ck + 1))) 1728 0 p (nI (ck + 1))) l' (ck + 1)) → aFix A p = stP B l' → zwp 86 (137, [some (.inr (some (16, 0))), some (.inl (nI p)), x2, x3], [], (S1, d)) (fun o t => ∃ S', o = .inl none ∧ t = (S', d) ∧ zfr S S' pmm ∧ lkM S' (ck + 1) (aFix A p)) := by
    intro S1 B l' x2 x3 hf hB hpl he
    have h43 := hB.clk.1
    rw [he]
    refine w86_137 ⟨p, rfl, by omega, ⟨_, rfl, rfl, fun f i j h => ?_, lkM_tick hB (by rw [h43, nI_add]) (hpl hB)⟩⟩
    rw [zu_f _ _ (fun z => h (by show _ ∨ _; omega)), zu_f _ _ (fun z => h (by show _ ∨ _; omega))]
    exact hf f i j h
  by_cases hin : p ∈ gP A
  · have e0 : aFix A p = stP A (aTouch p (gP A)) := by
      unfold aFix
      rw [if_pos hin]
      have : aLeave p (gP A) = none := by
        unfold aLeave
        rw [if_pos (Or.inr hin)]
      rw [this]
      rfl
    have et : aTouch p (gP A) = (gP A).eraseIdx (lidx p (gP A)) ++ [p] := by
      unfold aTouch aOut
      rw [if_pos hin]
    refine w86_0 ⟨p, rfl, by omega, fun h0 => ?_, fun _ => tick S A _ _ _ (fun _ _ _ _ => rfl) hl (fun hB => by rw [et]; exact mpool_old hB.clk (by omega) hin) e0⟩
    rw [p2 p (by omega), ← nI_0, nI_eq_iff (by omega) (by decide)] at h0
    have := (p4 p (by omega)).mpr hin
    omega
  · have e0 : aFix A p = stP (aRead (aWin A (lv6 (gP A))) p) (dr6 (gP A) ++ [p]) := by
      unfold aFix aTouch
      rw [if_neg hin, lv6_e hin, dr6_e hin hw.pool.1.1]
    have hnd : p ∉ dr6 (gP A) := fun z => hin (dr6_sub z)
    refine w86_0 ⟨p, rfl, by omega, fun _ => zwp_mono (r85 hl hw hwh (by omega)) (fun o t h => ?_), fun h0 => ?_⟩
    · obtain ⟨S1, rfl, rfl, f1, g1⟩ := h
      have hwB : wA (aWin A (lv6 (gP A))) := wA_win hw
      have e1 : stP (aRead (aWin A (lv6 (gP A))) p) (dr6 (gP A) ++ [p]) = stP (aRead (stP (aWin A (lv6 (gP A))) (dr6 (gP A))) p) (dr6 (gP A) ++ [p]) := by
        generalize aWin A (lv6 (gP A)) = B
        obtain ⟨lg, n, fo, im, dm, bk, pl, r, w, e, q⟩ := B
        rfl
      rw [e1] at e0
      have hwl : wlog (gL (stP (aWin A (lv6 (gP A))) (dr6 (gP A)))) (gN (stP (aWin A (lv6 (gP A))) (dr6 (gP A)))) := hwB.log
      have him : gIm (stP (aWin A (lv6 (gP A))) (dr6 (gP A))) p ≤ gN (stP (aWin A (lv6 (gP A))) (dr6 (gP A))) := hwB.2.2.2.2.2.2.1 p
      have hbk : ∀ x, gBk (stP (aWin A (lv6 (gP A))) (dr6 (gP A))) p = some x → x ≤ gN (stP (aWin A (lv6 (gP A))) (dr6 (gP A))) := hwB.2.2.2.2.2.2.2 p
      have hgp : gP (stP (aWin A (lv6 (gP A))) (dr6 (gP A))) = dr6 (gP A) := rfl
      generalize dr6 (gP A) = l6 at hnd hgp e0 g1 hwl him hbk
      generalize stP (aWin A (lv6 (gP A))) l6 = B at hgp e0 g1 hwl him hbk
      obtain ⟨lg, n, fo, im, dm, bk, pl, r, w, e, q⟩ := B
      have hgp : pl = l6 := hgp
      subst hgp
      have hwl : wlog lg n := hwl
      have hn := hwl.1
      have him : im p ≤ n := him
      have hbk : ∀ x, bk p = some x → x ≤ n := hbk
      have hlsn : aLsn dm bk im p ≤ n := aLsn_le him hbk
      obtain ⟨l1, l2, l3, l4, l5, l6, l7, l8⟩ := id g1
      obtain ⟨m1, m2, m3⟩ := l3 p (by omega)
      -- behind the reading of the image's LSN
      have aft : zwp 86 (60, [some (.inr (some (16, 0))), some (.inl (nI p)), none, none], [.inl (nI (aLsn dm bk im p))], (zu S1 1044 0 0 (S1 1044 0 0 + nI 1), d)) (fun o t => ∃ S', o = .inl none ∧ t = (S', d) ∧ zfr S S' pmm ∧ lkM S' (ck + 1) (aFix A p)) := by
        have fin : ∀ v : Int32, v = (if dm p = true then q + nI 1 else q) → zwp 86 (88, [some (.inr (some (16, 0))), some (.inl (nI p)), some (.inl (nI (aLsn dm bk im p))), some (.inl (nI (aLsn dm bk im p) + nI 1))], [], (zu (zu S1 1044 0 0 (S1 1044 0 0 + nI 1)) 1047 0 0 v, d)) (fun o t => ∃ S', o = .inl none ∧ t = (S', d) ∧ zfr S S' pmm ∧ lkM S' (ck + 1) (aFix A p)) := by
          intro v hv
          have hk : ∀ f i j, f ≠ 1044 → f ≠ 1047 → zu (zu S1 1044 0 0 (S1 1044 0 0 + nI 1)) 1047 0 0 v f i j = S1 f i j := fun f i j q1 q2 => by rw [zu_f _ _ q2, zu_f _ _ q1]
          rw [nI_add]
          refine r86c (lg := lg) (n := n) (fo := fo) (lsn := aLsn dm bk im p) (e0 := e) (S0 := zu (zu S1 1044 0 0 (S1 1044 0 0 + nI 1)) 1047 0 0 v) (mlog_congr (fun f i j hf => hk f i j (by omega) (by omega)) (by rw [hk _ _ _ (by decide) (by decide)]; exact l1.2.1) l1) hwl (by omega) hlsn (fun S3 x3 hf3 he3 => ?_) (n - aLsn dm bk im p) (aLsn dm bk im p) _ (by omega) (Nat.le_refl _) (fun _ _ _ _ => rfl) (by rw [hk _ _ _ (by decide) (by decide), l7, Nat.sub_self, nI_0, Int32.add_zero])
          refine tick S3 (aRead (lg, n, fo, im, dm, bk, pl, r, w, e, q) p) (pl ++ [p]) _ _ (fun f i j h => ?_) ?_ (fun hB => mpool_new hB.clk (by omega) hnd) e0
          · rw [hf3 f i j (fun z => h (by show _ ∨ _; omega)), hk f i j (fun z => h (by show _ ∨ _; omega)) (fun z => h (by show _ ∨ _; omega))]
            exact f1 f i j h
          · have hk3 : ∀ f i j, f ≠ 1044 → f ≠ 1046 → f ≠ 1047 → S3 f i j = S1 f i j := fun f i j q1 q2 q3 => by rw [hf3 f i j q2, hk f i j q1 q3]
            refine ⟨mlog_congr (fun f i j hf => hk3 f i j (by omega) (by omega) (by omega)) (by rw [hk3 _ _ _ (by decide) (by decide) (by decide)]; exact l1.2.1) l1, by rw [hk3 _ _ _ (by decide) (by decide) (by decide)]; exact l2, fun x hx => mpg_congr (fun f hf => hk3 f 0 x (by omega) (by omega) (by omega)) (l3 x hx), mpool_congr (fun f j hf => hk3 f 0 j (by omega) (by omega) (by omega)) l4, ?_, by rw [hk3 _ _ _ (by decide) (by decide) (by decide)]; exact l6, he3, ?_⟩
            · rw [hf3 _ _ _ (by decide), zu_f _ _ (by decide), zu_self, l5]
            · rw [hf3 _ _ _ (by decide), zu_self, hv]
        refine w86_60 ⟨p, rfl, by omega, fun h0 => ?_, fun h0 => ?_⟩
        · rw [zu_f _ _ (by decide), m2, b2i_0] at h0
          refine fin _ ?_
          rw [zu_f _ _ (by decide), l8, h0, if_neg (by decide), nI_0, Int32.add_zero]
        · rw [zu_f _ _ (by decide), m2, b2i_0] at h0
          have h1 : dm p = true := by
            cases hb : dm p with
            | true => rfl
            | false => exact absurd hb h0
          refine fin _ ?_
          rw [zu_f _ _ (by decide), l8, h1, if_pos rfl]
      refine w86_13 ⟨p, rfl, by omega, fun h0 => ⟨p, rfl, by omega, ?_⟩, fun h0 => ⟨p, rfl, by omega, fun hb => ⟨p, rfl, by omega, ?_⟩, fun hb => ?_⟩⟩
      · rw [m2, b2i_0] at h0
        rw [m1]
        unfold aLsn at aft
        rw [h0, if_neg (by decide)] at aft
        exact aft
      · rw [m2, b2i_0] at h0
        have h1 : dm p = true := by
          cases hb : dm p with
          | true => rfl
          | false => exact absurd hb h0
        unfold aLsn at aft
        rw [h1, if_pos rfl] at aft
        cases hbp : bk p with
        | none =>
          rw [m3, hbp] at hb
          exact absurd hb (by decide)
        | some x =>
          rw [hbp] at aft
          rw [m3, hbp]
          exact aft
      · rw [m2, b2i_0] at h0
        have h1 : dm p = true := by
          cases hb : dm p with
          | true => rfl
          | false => exact absurd hb h0
        unfold aLsn at aft
        rw [h1, if_pos rfl] at aft
        cases hbp : bk p with
        | none =>
          rw [hbp] at aft
          exact aft
        | some x =>
          rw [m3, hbp] at hb
          have := hbk x hbp
          exact absurd (nI_pos' (by omega)) hb
    · rw [p2 p (by omega), ← nI_0, nI_eq_iff (by omega) (by decide)] at h0
      exact absurd ((p4 p (by omega)).mp (by omega)) hin
end RX
