/-! The reference: losers, count, record, lock, show. -/
def mser (S : zS) (sr : Nat → Nat) : Prop := ∀ j, j < 4 → S 2112 0 j = nI (sr j)
def mhel (S : zS) (hd : Nat → Nat → Nat) : Prop := ∀ t k, t < 4 → k < 40 → S 2176 0 (40 * t + k) = nI (hd t k)
def opk (sr : Nat → Nat) (s : Nat) : Nat → Bool
  | 0 => false
  | k + 1 => opk sr s k || decide (sr k = s)
def hsw (lg : Nat → aRec) (s : Nat) : Nat → Bool
  | 0 => false
  | n + 1 => hsw lg s n || decide (rW (lg (n + 1)) = s)
def edw (lg : Nat → aRec) (s : Nat) : Nat → Bool
  | 0 => false
  | n + 1 => edw lg s n || decide (rW (lg (n + 1)) = s ∧ 6 ≤ rK (lg (n + 1)))
def isLo (lg : Nat → aRec) (n : Nat) (sr : Nat → Nat) (s : Nat) : Bool := hsw lg s n && !edw lg s n && !opk sr s 4
def nlo (lg : Nat → aRec) (n : Nat) (sr : Nat → Nat) : Nat → Nat
  | 0 => 0
  | s + 1 => if isLo lg n sr (s + 1) = true then nlo lg n sr s + 1 else nlo lg n sr s
theorem edw_mono {lg : Nat → aRec} {s a b : Nat} (h : a ≤ b) (ha : edw lg s a = true) : edw lg s b = true := by
  induction b with
  | zero =>
    have : a = 0 := by omega
    rw [this] at ha
    exact ha
  | succ b ih =>
    by_cases e : a = b + 1
    · rw [e] at ha
      exact ha
    · rw [edw, ih (by omega), Bool.true_or]
theorem b2i_t : b2i true = nI 1 := rfl
theorem b2i_f : b2i false = nI 0 := rfl
section RS
variable {S : zS} {d : Nat} {sr : Nat → Nat} {lg : Nat → aRec} {n fo s : Nat}
theorem r97 (hs : mser S sr) (hsr : ∀ j, sr j < 2000) (hs2 : s < 2000) : zwp 97 (0, zent 97 [.inr (some (16, 0)), .inl (nI s)], [], (S, d)) (fun o t => o = .inl (some (.inl (b2i (opk sr s 4)))) ∧ t = (S, d)) := by
  have key : ∀ (m i : Nat), i + m = 4 → zwp 97 (4, [some (.inr (some (16, 0))), some (.inl (nI s)), some (.inl (b2i (opk sr s i))), some (.inl (nI i))], [], (S, d)) (fun o t => o = .inl (some (.inl (b2i (opk sr s 4)))) ∧ t = (S, d)) := by
    intro m
    induction m with
    | zero =>
      intro i hi
      have hi : i = 4 := by omega
      subst hi
      exact w97_4 ⟨fun _ => ⟨b2i_01 _, rfl, rfl⟩, fun h => absurd (Int32.le_refl _) h⟩
    | succ m ih =>
      intro i hi
      have nx := ih (i + 1) (by omega)
      have h1 := hsr i
      rw [opk] at nx
      refine w97_4 ⟨fun h => ?_, fun _ => ⟨fun h0 => ⟨i, rfl, by omega, fun he => ?_, fun he => ?_⟩, fun h0 => ?_⟩⟩
      · rw [nI_le_iff (by decide) (by omega)] at h
        omega
      · rw [hs i (by omega), nI_eq_iff (by omega) (by omega)] at he
        rw [nI_add]
        rw [decide_eq_true he, Bool.or_true] at nx
        exact nx
      · rw [b2i_0] at h0
        rw [hs i (by omega), nI_eq_iff (by omega) (by omega)] at he
        rw [nI_add]
        rw [decide_eq_false he, h0] at nx
        exact nx
      · have h1 : opk sr s i = true := by
          cases hb : opk sr s i with
          | true => rfl
          | false => rw [hb] at h0; exact absurd rfl h0
        rw [nI_add]
        rw [h1, Bool.true_or] at nx
        exact nx
  exact w97_0 (key 4 0 (by omega))
theorem r98 (hl : mlog S lg n fo) (hw : wlog lg n) (hs : mser S sr) (hsr : ∀ j, sr j < 2000) (hs2 : s < 2000) : zwp 98 (0, zent 98 [.inr (some (16, 0)), .inl (nI s)], [], (S, d)) (fun o t => o = .inl (some (.inl (b2i (isLo lg n sr s)))) ∧ t = (S, d)) := by
  have hn := hw.1
  have key : ∀ (m k : Nat), k + m = n → edw lg s k = false → zwp 98 (4, [some (.inr (some (16, 0))), some (.inl (nI s)), some (.inl (b2i (hsw lg s k))), some (.inl (nI (k + 1)))], [], (S, d)) (fun o t => o = .inl (some (.inl (b2i (isLo lg n sr s)))) ∧ t = (S, d)) := by
    intro m
    induction m with
    | zero =>
      intro k hk he
      have hk : k = n := by omega
      subst hk
      refine w98_4 ⟨fun _ => ⟨fun h0 => ?_, fun h0 => zwp_mono (r97 hs hsr hs2) (fun o t h => ?_)⟩, fun h => ?_⟩
      · rw [b2i_0] at h0
        refine ⟨?_, rfl⟩
        unfold isLo
        rw [h0]
        rfl
      · obtain ⟨rfl, rfl⟩ := h
        have h1 : hsw lg s k = true := by
          cases hb : hsw lg s k with
          | true => rfl
          | false => rw [hb] at h0; exact absurd rfl h0
        refine w98_70 ⟨fun z => ?_, fun z => ?_⟩
        · rw [b2i_0] at z
          refine ⟨?_, rfl⟩
          unfold isLo
          rw [h1, he, z]
          rfl
        · have z1 : opk sr s 4 = true := by
            cases hb : opk sr s 4 with
            | true => rfl
            | false => rw [hb] at z; exact absurd rfl z
          refine ⟨?_, rfl⟩
          unfold isLo
          rw [h1, he, z1]
          rfl
      · rw [hl.1, nI_lt_iff (by omega) (by omega)] at h
        omega
    | succ m ih =>
      intro k hk he
      obtain ⟨⟨a1, a2, a3, -⟩, -⟩ := hl.2.2.2 (k + 1) (by omega) (by omega)
      obtain ⟨b1, -, b3, -⟩ := hw.2 (k + 1) (by omega) (by omega)
      have go : edw lg s (k + 1) = false → zwp 98 (35, [some (.inr (some (16, 0))), some (.inl (nI s)), some (.inl (b2i (hsw lg s k))), some (.inl (nI (k + 1)))], [], (S, d)) (fun o t => o = .inl (some (.inl (b2i (isLo lg n sr s)))) ∧ t = (S, d)) := by
        intro he2
        have nx := ih (k + 1) (by omega) he2
        rw [hsw] at nx
        refine w98_35 ⟨fun h0 => ⟨k + 1, rfl, by omega, fun hq => ?_, fun hq => ?_⟩, fun h0 => ?_⟩
        · rw [a3, nI_eq_iff (by omega) (by omega)] at hq
          rw [nI_add]
          rw [decide_eq_true hq, Bool.or_true] at nx
          exact nx
        · rw [b2i_0] at h0
          rw [a3, nI_eq_iff (by omega) (by omega)] at hq
          rw [nI_add]
          rw [decide_eq_false hq, h0] at nx
          exact nx
        · have h1 : hsw lg s k = true := by
            cases hb : hsw lg s k with
            | true => rfl
            | false => rw [hb] at h0; exact absurd rfl h0
          rw [nI_add]
          rw [h1, Bool.true_or] at nx
          exact nx
      refine w98_4 ⟨fun h => ?_, fun _ => ⟨k + 1, rfl, by omega, fun hq => ⟨k + 1, rfl, by omega, fun h6 => ?_, fun h6 => ?_⟩, fun hq => ?_⟩⟩
      · rw [hl.1, nI_lt_iff (by omega) (by omega)] at h
        omega
      · rw [a1, nI_lt_iff (by omega) (by decide)] at h6
        exact go (by rw [edw, he, decide_eq_false (by omega)]; rfl)
      · rw [a1, nI_lt_iff (by omega) (by decide)] at h6
        rw [a3, nI_eq_iff (by omega) (by omega)] at hq
        have h1 : edw lg s n = true := edw_mono (a := k + 1) (by omega) (by rw [edw, decide_eq_true ⟨hq, by omega⟩, Bool.or_true])
        refine ⟨?_, rfl⟩
        unfold isLo
        rw [h1]
        cases hsw lg s n <;> rfl
      · rw [a3, nI_eq_iff (by omega) (by omega)] at hq
        exact go (by rw [edw, he, decide_eq_false (fun z => hq z.1)]; rfl)
  exact w98_0 (key n 0 (by omega) rfl)
theorem nlo_le (sr : Nat → Nat) : ∀ m, nlo lg n sr m ≤ m
  | 0 => Nat.le_refl _
  | m + 1 => by
    have := nlo_le sr m
    unfold nlo
    split <;> omega
theorem r117 {ss : Nat} (hl : mlog S lg n fo) (hw : wlog lg n) (hs : mser S sr) (hsr : ∀ j, sr j < 2000) (hss : S 1053 0 0 = nI ss) (hs2 : ss < 1000) : zwp 117 (0, zent 117 [.inr (some (16, 0))], [], (S, d)) (fun o t => o = .inl (some (.inl (nI (nlo lg n sr ss)))) ∧ t = (S, d)) := by
  have key : ∀ (m k : Nat), k + m = ss → zwp 117 (4, [some (.inr (some (16, 0))), some (.inl (nI (nlo lg n sr k))), some (.inl (nI (k + 1)))], [], (S, d)) (fun o t => o = .inl (some (.inl (nI (nlo lg n sr ss)))) ∧ t = (S, d)) := by
    intro m
    induction m with
    | zero =>
      intro k hk
      have hk : k = ss := by omega
      subst hk
      refine w117_4 ⟨fun _ => ⟨rfl, rfl⟩, fun h => ?_⟩
      rw [hss, nI_lt_iff (by omega) (by omega)] at h
      omega
    | succ m ih =>
      intro k hk
      have nx := ih (k + 1) (by omega)
      rw [nlo] at nx
      refine w117_4 ⟨fun h => ?_, fun _ => zwp_mono (r98 (s := k + 1) hl hw hs hsr (by omega)) (fun o t h => ?_)⟩
      · rw [hss, nI_lt_iff (by omega) (by omega)] at h
        omega
      obtain ⟨rfl, rfl⟩ := h
      refine w117_18 ⟨fun h0 => ?_, fun h0 => ?_⟩
      · rw [b2i_0] at h0
        rw [h0, if_neg (by decide)] at nx
        rw [nI_add, nI_add]
        exact nx
      · have h1 : isLo lg n sr (k + 1) = true := by
          cases hb : isLo lg n sr (k + 1) with
          | true => rfl
          | false => rw [hb] at h0; exact absurd rfl h0
        rw [h1, if_pos rfl] at nx
        rw [nI_add, nI_add]
        exact nx
  exact w117_0 (key ss 0 (by omega))
end RS
section RT
variable {S : zS} {d ck : Nat} {A : aSt} {sr : Nat → Nat}
theorem r120 {w : Int32} {ss : Nat} (hl : lkM S ck A) (hw : wA A) (hs : mser S sr) (hsr : ∀ j, sr j < 2000) (hss : S 1053 0 0 = nI ss) (hs2 : ss < 1000) : zwp 120 (0, zent 120 [.inr (some (16, 0)), .inl w], [], (S, d)) (fun o t => o = .inl (some (.inl (qCo A ss (nlo (gL A) (gN A) sr ss) w))) ∧ t = (zu S 1024 0 0 (nI 0), d)) := by
  obtain ⟨b1, b2, b3, b4⟩ := hl.ct
  have hg := hl.log
  refine w120_0 ⟨fun h => ?_, fun h => ?_, fun h => ?_, fun h => ?_, fun h => ?_, fun h => ?_, fun h => ?_, fun h => ?_, fun h => ?_, fun h0 h1 h2 h3 h4 h5 h6 h7 h8 => ?_⟩
  · subst h
    rw [hl.m]
    exact ⟨rfl, rfl⟩
  · subst h
    rw [hg.1]
    exact ⟨rfl, rfl⟩
  · subst h
    rw [hg.2.1]
    exact ⟨rfl, rfl⟩
  · subst h
    rw [b1]
    exact ⟨rfl, rfl⟩
  · subst h
    rw [b2]
    exact ⟨rfl, rfl⟩
  · subst h
    rw [b3]
    exact ⟨rfl, rfl⟩
  · subst h
    rw [b4]
    exact ⟨rfl, rfl⟩
  · subst h
    have hl1 := lkM_c (v := nI 0) hl
    refine zwp_mono (r117 hl1.log hw.log (sr := sr) (fun j hj => by rw [zu_f _ _ (by decide)]; exact hs j hj) hsr (ss := ss) (by rw [zu_f _ _ (by decide)]; exact hss) hs2) (fun o t h => ?_)
    obtain ⟨rfl, rfl⟩ := h
    exact w120_95 ⟨rfl, rfl⟩
  · subst h
    rw [hss]
    exact ⟨rfl, rfl⟩
  · refine ⟨?_, rfl⟩
    unfold qCo
    rw [if_neg h0, if_neg h1, if_neg h2, if_neg h3, if_neg h4, if_neg h5, if_neg h6, if_neg h7, if_neg h8]
theorem r122 {x y : Int32} {hd : Nat → Nat → Nat} (hs : mser S sr) (hh : mhel S hd) (hsr : ∀ j, sr j < 2000) : zwp 122 (0, zent 122 [.inr (some (16, 0)), .inl x, .inl y], [], (S, d)) (fun o t => o = .inl (some (.inl (qLo sr hd x y))) ∧ t = (zu S 1024 0 0 (nI 0), d)) := by
  unfold qLo
  have hs : mser (zu S 1024 0 0 (nI 0)) sr := fun j hj => by rw [zu_f _ _ (by decide)]; exact hs j hj
  have hh : mhel (zu S 1024 0 0 (nI 0)) hd := fun t k ht hk => by rw [zu_f _ _ (by decide)]; exact hh t k ht hk
  refine w122_0 ?_
  generalize zu S 1024 0 0 (nI 0) = S1 at hs hh
  rcases ixc (n := 4) (by decide) x with ⟨j, hj, rfl⟩ | hx
  · rw [ifx_y (by decide) hj]
    refine zwp_mono (r96y hj) (fun o t h => ?_)
    obtain ⟨rfl, rfl⟩ := h
    refine w122_10 ⟨fun z => absurd z i01, fun _ => ?_⟩
    rcases ixc (n := 40) (by decide) y with ⟨k, hk, rfl⟩ | hy
    · rw [ifx_y (by decide) hk, nI_clamp (n := j) (by omega), nI_clamp (n := k) (by omega)]
      refine zwp_mono (r77y (by omega) (by omega) (by decide)) (fun o t h => ?_)
      obtain ⟨rfl, rfl⟩ := h
      have h2 := hsr j
      refine w122_20 ⟨fun z => absurd z i01, fun _ => ⟨j, rfl, hj, fun z => ?_, fun z => ⟨40 * j + k, by rw [nI_mul, nI_add], by omega, ?_⟩⟩⟩
      · rw [hs j hj, ← nI_0, nI_le_iff (by omega) (by decide)] at z
        rw [if_pos (by omega)]
        exact ⟨rfl, rfl⟩
      · rw [hs j hj, ← nI_0, nI_le_iff (by omega) (by decide)] at z
        rw [if_neg (by omega), hh j k hj hk]
        exact ⟨rfl, rfl⟩
    · rw [ifx_n hy]
      refine zwp_mono (r77n (out_n (by decide) hy)) (fun o t h => ?_)
      obtain ⟨rfl, rfl⟩ := h
      exact w122_20 ⟨fun _ => ⟨rfl, rfl⟩, fun z => absurd i00 z⟩
  · rw [ifx_n hx]
    refine zwp_mono (r96n hx) (fun o t h => ?_)
    obtain ⟨rfl, rfl⟩ := h
    exact w122_10 ⟨fun _ => ⟨rfl, rfl⟩, fun z => absurd i00 z⟩
theorem r121 {x w : Int32} (hl : lkM S ck A) (hw : wA A) : zwp 121 (0, zent 121 [.inr (some (16, 0)), .inl x, .inl w], [], (S, d)) (fun o t => o = .inl (some (.inl (qRe A x w))) ∧ t = (zu S 1024 0 0 (nI 0), d)) := by
  have hn := hw.n
  have hwl := hw.log
  have hl1 := lkM_c (v := nI 0) hl
  have hg0 := hl.log.1
  unfold qRe
  refine w121_0 ?_
  rw [hg0]
  generalize zu S 1024 0 0 (nI 0) = S1 at hl1
  have hg := hl1.log
  by_cases h12 : x < nI 1 ∨ nI (gN A) < x
  · rw [if_pos h12]
    refine zwp_mono (r77n h12) (fun o t h => ?_)
    obtain ⟨rfl, rfl⟩ := h
    exact w121_14 ⟨fun _ => ⟨rfl, rfl⟩, fun z => absurd i00 z⟩
  · rw [if_neg h12]
    obtain ⟨j, j1, j2, rfl⟩ := ixr (by omega) (fun z => h12 (Or.inl z)) (fun z => h12 (Or.inr z))
    rw [nI_clamp (by omega)]
    obtain ⟨⟨a1, a2, a3, a4, -⟩, -⟩ := hg.2.2.2 j j1 j2
    obtain ⟨b1, b2, -⟩ := hwl.2 j j1 j2
    refine zwp_mono (r77y j1 j2 (by omega)) (fun o t h => ?_)
    obtain ⟨rfl, rfl⟩ := h
    refine w121_14 ⟨fun z => absurd z i01, fun _ => ?_⟩
    rcases ixc (n := 5) (by decide) w with ⟨v, hv, rfl⟩ | hx
    · refine zwp_mono (r77y (by omega) (by omega) (by decide)) (fun o t h => ?_)
      obtain ⟨rfl, rfl⟩ := h
      have at44 : zwp 121 (44, [some (.inr (some (16, 0))), some (.inl (nI j)), some (.inl (nI v)), none, none, none], [.inl (b2i (decide (¬ rK (gL A j) < 6)))], (S1, d)) (fun o t => o = .inl (some (.inl (qR1 (gL A j) (lat (gL A) (rP (gL A j)) (j - 1)) (nI v)))) ∧ t = (S1, d)) := by
        have hvv : v = 0 ∨ v = 1 ∨ v = 2 ∨ v = 3 ∨ v = 4 := by omega
        -- the latest before it
        have key : rK (gL A j) < 6 → v = 1 ∨ v = 2 → ∀ (m k : Nat) (x3 : Int32), k + m = j - 1 → zwp 121 (94, [some (.inr (some (16, 0))), some (.inl (nI j)), some (.inl (nI v)), some (.inl x3), some (.inl (nI (lat (gL A) (rP (gL A j)) k))), some (.inl (nI (k + 1)))], [], (S1, d)) (fun o t => o = .inl (some (.inl (qR1 (gL A j) (lat (gL A) (rP (gL A j)) (j - 1)) (nI v)))) ∧ t = (S1, d)) := by
          intro h6 hv2 m
          have hP := b2 h6
          induction m with
          | zero =>
            intro k x3 hk
            have hk : k = j - 1 := by omega
            subst hk
            refine w121_94 ⟨fun _ => ⟨fun hw1 => ⟨j, rfl, by omega, ?_⟩, fun hw1 => ?_⟩, fun h => absurd (by rw [nI_le_iff (by omega) (by omega)]; omega) h⟩
            · rw [nI_eq_iff (by omega) (by decide)] at hw1
              subst hw1
              rw [a2 h6]
              refine ⟨?_, rfl⟩
              unfold qR1
              rw [if_neg (by decide), if_pos rfl, if_pos h6]
            · rw [nI_eq_iff (by omega) (by decide)] at hw1
              have hv3 : v = 2 := by omega
              subst hv3
              refine ⟨?_, rfl⟩
              unfold qR1
              rw [if_neg (by decide), if_neg (by decide), if_pos rfl, if_pos h6]
          | succ m ih =>
            intro k x3 hk
            obtain ⟨⟨c1, c2, -⟩, -⟩ := hg.2.2.2 (k + 1) (by omega) (by omega)
            obtain ⟨d1, d2, -⟩ := hwl.2 (k + 1) (by omega) (by omega)
            have nx := ih (k + 1) x3 (by omega)
            refine w121_94 ⟨fun h => ?_, fun _ => ⟨k + 1, rfl, by omega, fun g6 => ?_, fun g6 => ⟨k + 1, rfl, by omega, j, rfl, by omega, fun hpg => ?_, fun hpg => ?_⟩⟩⟩
            · rw [nI_le_iff (by omega) (by omega)] at h
              omega
            · rw [c1, nI_le_iff (by decide) (by omega)] at g6
              rw [lat, isPg_k (by omega), if_neg (by decide)] at nx
              rw [nI_add]
              exact nx
            · rw [c1, nI_le_iff (by decide) (by omega)] at g6
              have g6 : rK (gL A (k + 1)) < 6 := by omega
              have := d2 g6
              rw [c2 g6, a2 h6, nI_eq_iff (by omega) (by omega)] at hpg
              rw [lat, isPg_t g6 hpg, if_pos rfl] at nx
              rw [nI_add]
              exact nx
            · rw [c1, nI_le_iff (by decide) (by omega)] at g6
              have g6 : rK (gL A (k + 1)) < 6 := by omega
              have := d2 g6
              rw [c2 g6, a2 h6, nI_eq_iff (by omega) (by omega)] at hpg
              rw [lat, isPg_p hpg, if_neg (by decide)] at nx
              rw [nI_add]
              exact nx
        refine w121_44 ⟨fun h0 => ⟨j, rfl, by omega, ?_⟩, fun h0 => ⟨fun h2 => ⟨fun hy => ?_, fun hy => ?_⟩, fun h2 => ⟨fun h3 => ⟨j, rfl, by omega, ?_⟩, fun h3 => ⟨j, rfl, by omega, ?_⟩⟩⟩⟩
        · rw [← nI_0, nI_eq_iff (by omega) (by decide)] at h0
          subst h0
          rw [a1]
          exact ⟨rfl, rfl⟩
        · rw [← nI_0, nI_eq_iff (by omega) (by decide)] at h0
          rw [nI_le_iff (by omega) (by decide)] at h2
          rw [b2i_0] at hy
          have h6 : rK (gL A j) < 6 := by
            have := of_decide_eq_false hy
            omega
          exact key h6 (by omega) (j - 1) 0 _ (by omega)
        · rw [← nI_0, nI_eq_iff (by omega) (by decide)] at h0
          rw [nI_le_iff (by omega) (by decide)] at h2
          have h6 : ¬ rK (gL A j) < 6 := by
            intro z
            rw [decide_eq_false (by omega)] at hy
            exact absurd rfl hy
          have hv2 : v = 1 ∨ v = 2 := by omega
          refine ⟨?_, rfl⟩
          unfold qR1
          rcases hv2 with rfl | rfl
          · rw [if_neg (by decide), if_pos rfl, if_neg h6]
          · rw [if_neg (by decide), if_neg (by decide), if_pos rfl, if_neg h6]
        · rw [nI_eq_iff (by omega) (by decide)] at h3
          subst h3
          rw [a3]
          exact ⟨rfl, rfl⟩
        · rw [← nI_0, nI_eq_iff (by omega) (by decide)] at h0
          rw [nI_le_iff (by omega) (by decide)] at h2
          rw [nI_eq_iff (by omega) (by decide)] at h3
          have h4 : v = 4 := by omega
          subst h4
          rw [a4]
          exact ⟨rfl, rfl⟩
      refine w121_23 ⟨fun z => absurd z i01, fun _ => ⟨j, rfl, by omega, fun h6 => ?_, fun h6 => ?_⟩⟩
      · rw [a1, nI_lt_iff (by omega) (by decide)] at h6
        rw [decide_eq_false (by omega)] at at44
        exact at44
      · rw [a1, nI_lt_iff (by omega) (by decide)] at h6
        rw [decide_eq_true h6] at at44
        exact at44
    · refine zwp_mono (r77n (out_n (by decide) hx)) (fun o t h => ?_)
      obtain ⟨rfl, rfl⟩ := h
      refine w121_23 ⟨fun _ => ⟨?_, rfl⟩, fun z => absurd i00 z⟩
      have hv : ∀ v, v < 5 → ¬ w = nI v := fun v hv e => by
        rw [e] at hx
        exact hx.elim (nI_pos (by omega)) (nI_ge hv (by decide))
      unfold qR1
      rw [if_neg (hv 0 (by decide)), if_neg (hv 1 (by decide)), if_neg (hv 2 (by decide)), if_neg (hv 3 (by decide)), if_neg (hv 4 (by decide))]
end RT
