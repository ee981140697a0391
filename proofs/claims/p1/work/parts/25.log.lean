/-! The log: records by number, what they make of the pages; the class's log. -/
-- kind, page, transaction, undoes, last of its split, key (or separator), value, had, before, contents (FORMAT's; LINK's child and the one behind which)
abbrev aRec : Type := Nat × Nat × Nat × Nat × Nat × Nat × Int32 × Bool × Int32 × aCon
def rK (r : aRec) : Nat := r.1
def rP (r : aRec) : Nat := r.2.1
def rW (r : aRec) : Nat := r.2.2.1
def rU (r : aRec) : Nat := r.2.2.2.1
def rL (r : aRec) : Nat := r.2.2.2.2.1
def rY (r : aRec) : Nat := r.2.2.2.2.2.1
def rV (r : aRec) : Int32 := r.2.2.2.2.2.2.1
def rH (r : aRec) : Bool := r.2.2.2.2.2.2.2.1
def rB (r : aRec) : Int32 := r.2.2.2.2.2.2.2.2.1
def rF (r : aRec) : aCon := r.2.2.2.2.2.2.2.2.2
def rC (r : aRec) : Nat := (rF r).2.1.getD 0 0
def rE (r : aRec) : Nat := (rF r).2.1.getD 1 0
def isPg (p : Nat) (r : aRec) : Bool := decide (rK r < 6 ∧ rP r = p)
def app (r : aRec) (c : aCon) : aCon := match rK r with
  | 1 => cEnter (rY r) (rV r) c
  | 2 => cDrop (rY r) c
  | 3 => rF r
  | 4 => cCut c
  | 5 => cLink (rY r) (rC r) (rE r) c
  | _ => c
-- of the records 1 .. n: the latest of a page, how many it has, its contents, how many pages, whether one undoes m
def lat (lg : Nat → aRec) (p : Nat) : Nat → Nat
  | 0 => 0
  | n + 1 => if isPg p (lg (n + 1)) = true then n + 1 else lat lg p n
def cnt (lg : Nat → aRec) (p : Nat) : Nat → Nat
  | 0 => 0
  | n + 1 => if isPg p (lg (n + 1)) = true then cnt lg p n + 1 else cnt lg p n
def con (lg : Nat → aRec) (p : Nat) : Nat → aCon
  | 0 => (false, [], [])
  | n + 1 => if isPg p (lg (n + 1)) = true then app (lg (n + 1)) (con lg p n) else con lg p n
def pgs (lg : Nat → aRec) : Nat → Nat
  | 0 => 1
  | n + 1 => if rK (lg (n + 1)) < 6 then max (pgs lg n) (rP (lg (n + 1)) + 1) else pgs lg n
def undn (lg : Nat → aRec) (m : Nat) : Nat → Bool
  | 0 => false
  | n + 1 => decide (rU (lg (n + 1)) = m) || undn lg m n
def upL (lg : Nat → aRec) (n : Nat) (r : aRec) : Nat → aRec := fun m => if m = n then r else lg m
theorem upL_self (lg : Nat → aRec) (n : Nat) (r : aRec) : upL lg n r n = r := by simp [upL]
theorem upL_ne {lg : Nat → aRec} {n m : Nat} (r : aRec) (h : m ≠ n) : upL lg n r m = lg m := by simp [upL, h]
theorem lat_le (lg : Nat → aRec) (p : Nat) : ∀ n, lat lg p n ≤ n
  | 0 => Nat.le_refl _
  | n + 1 => by
    have := lat_le lg p n
    unfold lat
    split
    · exact Nat.le_refl _
    · omega
theorem cnt_le (lg : Nat → aRec) (p : Nat) : ∀ n, cnt lg p n ≤ n
  | 0 => Nat.le_refl _
  | n + 1 => by
    have := cnt_le lg p n
    unfold cnt
    split
    · omega
    · omega
theorem lat_congr {lg lg' : Nat → aRec} {p : Nat} : ∀ {n : Nat}, (∀ m, 1 ≤ m → m ≤ n → lg' m = lg m) → lat lg' p n = lat lg p n
  | 0, _ => rfl
  | n + 1, h => by
    unfold lat
    rw [h (n + 1) (by omega) (Nat.le_refl _), lat_congr (fun m h1 h2 => h m h1 (by omega))]
theorem cnt_congr {lg lg' : Nat → aRec} {p : Nat} : ∀ {n : Nat}, (∀ m, 1 ≤ m → m ≤ n → lg' m = lg m) → cnt lg' p n = cnt lg p n
  | 0, _ => rfl
  | n + 1, h => by
    unfold cnt
    rw [h (n + 1) (by omega) (Nat.le_refl _), cnt_congr (fun m h1 h2 => h m h1 (by omega))]
theorem con_congr {lg lg' : Nat → aRec} {p : Nat} : ∀ {n : Nat}, (∀ m, 1 ≤ m → m ≤ n → lg' m = lg m) → con lg' p n = con lg p n
  | 0, _ => rfl
  | n + 1, h => by
    unfold con
    rw [h (n + 1) (by omega) (Nat.le_refl _), con_congr (fun m h1 h2 => h m h1 (by omega))]
theorem pgs_congr {lg lg' : Nat → aRec} : ∀ {n : Nat}, (∀ m, 1 ≤ m → m ≤ n → lg' m = lg m) → pgs lg' n = pgs lg n
  | 0, _ => rfl
  | n + 1, h => by
    unfold pgs
    rw [h (n + 1) (by omega) (Nat.le_refl _), pgs_congr (fun m h1 h2 => h m h1 (by omega))]
theorem undn_congr {lg lg' : Nat → aRec} {k : Nat} : ∀ {n : Nat}, (∀ m, 1 ≤ m → m ≤ n → lg' m = lg m) → undn lg' k n = undn lg k n
  | 0, _ => rfl
  | n + 1, h => by
    unfold undn
    rw [h (n + 1) (by omega) (Nat.le_refl _), undn_congr (fun m h1 h2 => h m h1 (by omega))]
-- what a record brings, as the class's row n has it
def lrB (S : zS) (n : Nat) (r : aRec) : Prop := match rK r with
  | 1 => S 200 n 0 = nI (rY r) ∧ S 201 n 0 = rV r ∧ S 206 n 0 = b2i (rH r) ∧ S 207 n 0 = rB r
  | 2 => S 200 n 0 = nI (rY r) ∧ S 206 n 0 = b2i (rH r) ∧ S 207 n 0 = rB r
  | 3 => lbr S n (rF r)
  | 5 => S 200 n 0 = nI (rC r) ∧ S 201 n 0 = nI (rY r) ∧ S 205 n 0 = nI (rE r)
  | _ => True
-- the head of a row: number, kind, page, previous, transaction, undoes, last
def lrH (S : zS) (n pr : Nat) (r : aRec) : Prop := S 192 n 0 = nI n ∧ S 193 n 0 = nI (rK r) ∧ S 194 n 0 = (if rK r < 6 then nI (rP r) else zint (-1)) ∧ S 195 n 0 = (if rK r < 6 then nI pr else zint (-1)) ∧ S 196 n 0 = nI (rW r) ∧ S 197 n 0 = nI (rU r) ∧ S 199 n 0 = nI (rL r)
def llog (S : zS) (d : Nat) (lg : Nat → aRec) (n fo sl : Nat) : Prop := S 65 0 0 = nI n ∧ S 66 0 0 = nI fo ∧ S 67 0 0 = nI sl ∧ n ≤ d ∧ d < 1145 ∧ ∀ m, 1 ≤ m → m ≤ n → lrH S m (lat lg (rP (lg m)) (m - 1)) (lg m) ∧ S 198 m 0 = b2i (undn lg m n) ∧ lrB S m (lg m)
abbrev prow (n : Nat) : Nat → Nat → Prop := fun f i => (f = 65 ∧ i = 0) ∨ (192 ≤ f ∧ f < 256 ∧ i = n)
-- Log.add
theorem c39 {S : zS} {d n sl : Nat} {x1 x2 x3 x4 : Int32} (hn : S 65 0 0 = nI n) (hsl : S 67 0 0 = nI sl) (h1 : n < 1144) (h2 : n ≤ d) (h3 : d < 1145) (h4 : sl < 2000) :
    zwp 39 (0, zent 39 [.inr (some (1, 0)), .inl x1, .inl x2, .inl x3, .inl x4], [], (S, d)) (fun o t => ∃ S' d', o = .inl (some (.inr (some (3, n + 1)))) ∧ t = (S', d') ∧ d ≤ d' ∧ n + 1 ≤ d' ∧ d' < 1145 ∧ zfr S S' (prow (n + 1)) ∧ S' 65 0 0 = nI (n + 1) ∧ S' 192 (n + 1) 0 = nI (n + 1) ∧ S' 193 (n + 1) 0 = x1 ∧ S' 194 (n + 1) 0 = x2 ∧ S' 195 (n + 1) 0 = x3 ∧ S' 196 (n + 1) 0 = x4 ∧ S' 197 (n + 1) 0 = nI 0 ∧ S' 198 (n + 1) 0 = nI 0 ∧ S' 199 (n + 1) 0 = nI (if n + 1 < sl then sl else n + 1)) := by
  have fin : ∀ (S1 : zS) (d1 : Nat), S1 65 0 0 = nI (n + 1) → S1 67 0 0 = nI sl → d ≤ d1 → n + 1 ≤ d1 → d1 < 1145 → zfr S S1 (prow (n + 1)) → zwp 39 (48, [some (.inr (some (1, 0))), some (.inl x1), some (.inl x2), some (.inl x3), some (.inl x4), none], [], (S1, d1)) (fun o t => ∃ S' d', o = .inl (some (.inr (some (3, n + 1)))) ∧ t = (S', d') ∧ d ≤ d' ∧ n + 1 ≤ d' ∧ d' < 1145 ∧ zfr S S' (prow (n + 1)) ∧ S' 65 0 0 = nI (n + 1) ∧ S' 192 (n + 1) 0 = nI (n + 1) ∧ S' 193 (n + 1) 0 = x1 ∧ S' 194 (n + 1) 0 = x2 ∧ S' 195 (n + 1) 0 = x3 ∧ S' 196 (n + 1) 0 = x4 ∧ S' 197 (n + 1) 0 = nI 0 ∧ S' 198 (n + 1) 0 = nI 0 ∧ S' 199 (n + 1) 0 = nI (if n + 1 < sl then sl else n + 1)) := by
    intro S1 d1 g1 g2 g3 g4 g5 g6
    have fr : ∀ v : Int32, zfr S (zu (zu (zu (zu (zu (zu (zu (zu S1 192 (n + 1) 0 (S1 65 0 0)) 193 (n + 1) 0 x1) 194 (n + 1) 0 x2) 195 (n + 1) 0 x3) 196 (n + 1) 0 x4) 197 (n + 1) 0 (nI 0)) 198 (n + 1) 0 (nI 0)) 199 (n + 1) 0 v) (prow (n + 1)) := by
      intro v f i j hnp
      have q : ∀ g, 192 ≤ g → g < 256 → ¬ (f = g ∧ i = n + 1 ∧ j = 0) := fun g h1 h2 z => hnp (Or.inr ⟨by omega, by omega, z.2.1⟩)
      unfold zu
      rw [if_neg (q 199 (by decide) (by decide)), if_neg (q 198 (by decide) (by decide)), if_neg (q 197 (by decide) (by decide)), if_neg (q 196 (by decide) (by decide)), if_neg (q 195 (by decide) (by decide)), if_neg (q 194 (by decide) (by decide)), if_neg (q 193 (by decide) (by decide)), if_neg (q 192 (by decide) (by decide))]
      exact g6 f i j hnp
    refine w39_48 ⟨n + 1, g1, by omega, ⟨by omega, g4⟩, fun hle => ?_, fun hnle => ?_⟩
    · have e1 : ¬ n + 1 < sl := by
        have h : S1 67 0 0 ≤ S1 65 0 0 := hle
        rw [g1, g2, nI_le_iff (by omega) (by omega)] at h
        omega
      refine ⟨_, d1, rfl, rfl, g3, g4, g5, fr _, ?_, ?_, ?_, ?_, ?_, ?_, ?_, ?_, ?_⟩
      · simpa [zu] using g1
      · simpa [zu] using g1
      · simp [zu]
      · simp [zu]
      · simp [zu]
      · simp [zu]
      · simp [zu]
      · simp [zu]
      · rw [zu_self, if_neg e1]
        exact g1
    · have e1 : n + 1 < sl := by
        have h : ¬ S1 67 0 0 ≤ S1 65 0 0 := hnle
        rw [g1, g2, nI_le_iff (by omega) (by omega)] at h
        omega
      refine ⟨_, d1, rfl, rfl, g3, g4, g5, fr _, ?_, ?_, ?_, ?_, ?_, ?_, ?_, ?_, ?_⟩
      · simpa [zu] using g1
      · simpa [zu] using g1
      · simp [zu]
      · simp [zu]
      · simp [zu]
      · simp [zu]
      · simp [zu]
      · simp [zu]
      · rw [zu_self, if_pos e1]
        exact g2
  refine w39_0 ⟨fun hge => ?_, fun _ => ?_⟩
  · rw [hn, nI_le_iff (by omega) (by omega)] at hge
    omega
  have k1 : zu S 65 0 0 (S 65 0 0 + nI 1) 65 0 0 = nI (n + 1) := by rw [zu_self, hn, nI_add]
  have k2 : zu S 65 0 0 (S 65 0 0 + nI 1) 67 0 0 = nI sl := by rw [zu_f _ _ (by decide)]; exact hsl
  have k3 : zfr S (zu S 65 0 0 (S 65 0 0 + nI 1)) (prow (n + 1)) := zfr.up (Or.inl ⟨rfl, rfl⟩)
  refine w39_20 ⟨n + 1, k1, by omega, fun hin => fin _ d k1 k2 (Nat.le_refl _) hin.2 h3 k3, fun hout => ?_⟩
  have hd : d = n := by omega
  subst hd
  refine ⟨⟨k1, by omega⟩, fin _ (d + 1) ?_ ?_ (by omega) (Nat.le_refl _) (by omega) ?_⟩
  · unfold zrow
    rw [if_neg (by omega)]
    exact k1
  · unfold zrow
    rw [if_neg (by omega)]
    exact k2
  · intro f i j hnp
    unfold zrow
    rw [if_neg (fun z => hnp (Or.inr ⟨by omega, by omega, z.2⟩))]
    exact k3 f i j hnp
-- Log.force
theorem c41 {S : zS} {d n fo sl m : Nat} {lg : Nat → aRec} (hl : llog S d lg n fo sl) (hm : m ≤ n) (hfo : fo < 2000) (hL : ∀ k, 1 ≤ k → k ≤ n → rL (lg k) < 2000) : zwp 41 (0, zent 41 [.inr (some (1, 0)), .inl (nI m)], [], (S, d)) (fun o t => ∃ S', o = .inl none ∧ t = (S', d) ∧ zfr S S' (fun f _ => f = 66) ∧ S' 66 0 0 = nI (if 0 < m ∧ fo < rL (lg m) then rL (lg m) else fo)) := by
  obtain ⟨l1, l2, l3, l4, l5, l6⟩ := hl
  refine w41_0 ⟨fun hle => ?_, fun hnle => ⟨fun hgt => ?_, fun _ => ⟨m, rfl, by omega, ?_, fun hle => ?_, fun hnle2 => ⟨m, rfl, by omega, ?_, ?_⟩⟩⟩⟩
  · rw [← nI_0, nI_le_iff (by omega) (by omega)] at hle
    exact ⟨S, rfl, rfl, zfr.rf _ _, by rw [if_neg (by omega)]; exact l2⟩
  · rw [l1, nI_lt_iff (by omega) (by omega)] at hgt
    omega
  · rw [← nI_0, nI_le_iff (by omega) (by omega)] at hnle
    omega
  · rw [← nI_0, nI_le_iff (by omega) (by omega)] at hnle
    have h1 := hL m (by omega) hm
    rw [(l6 m (by omega) hm).1.2.2.2.2.2.2, l2, nI_le_iff (by omega) (by omega)] at hle
    exact ⟨S, rfl, rfl, zfr.rf _ _, by rw [if_neg (by omega)]; exact l2⟩
  · rw [← nI_0, nI_le_iff (by omega) (by omega)] at hnle
    omega
  · rw [← nI_0, nI_le_iff (by omega) (by omega)] at hnle
    have h1 := hL m (by omega) hm
    rw [(l6 m (by omega) hm).1.2.2.2.2.2.2, l2, nI_le_iff (by omega) (by omega)] at hnle2
    exact ⟨_, rfl, rfl, zfr.up rfl, by rw [zu_self, if_pos (by omega)]; exact (l6 m (by omega) hm).1.2.2.2.2.2.2⟩
