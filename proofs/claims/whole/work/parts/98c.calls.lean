/-! What each call keeps: the model's steps. -/
section ST
variable {A B : aSt} {sr : Nat → Nat} {ss : Nat} {hd : Nat → Nat → Nat} {ls : Nat → Nat} {t k : Nat}
theorem put_step {v : Int32} (hJ : JJ B ss) (hP : PL B sr ss hd ls) (ht : t < 4) (hk : k < 40) (h0 : sr t ≠ 0) (hl : ls k = 0) (ho : oth hd t k 1 = false) (hcu : cUc (gL B) (gN B) + 1 + ss ≤ 512) :
    JJ (aPut B (sr t) k v 0).1 ss ∧ PL (aPut B (sr t) k v 0).1 sr ss (up2 hd t k 2) ls ∧ cUc (gL (aPut B (sr t) k v 0).1) (gN (aPut B (sr t) k v 0).1) = cUc (gL B) (gN B) + 1 := by
  obtain ⟨p1, p2, p3, p4, p5, p6⟩ := put_ok hJ hk
  have hex := hP.ex hk hl ho
  have hed := hP.2.1 t ht h0
  have hs := hP.1 t
  have e : (aPut B (sr t) k v 0).1 = aAdd (aPutP B k).1 (aChg 1 (aPutP B k).2 (sr t) 0 (gN (aPutP B k).1 + 1) k v (gC (aPutP B k).1 (aPutP B k).2)) := rfl
  rw [e]
  generalize aPutP B k = P at *
  obtain ⟨a1, a2, a3, a4, a5, a6, a7, a8, a9, a10⟩ := p4
  obtain ⟨f1, f2, f3, f4, f5, f6, f7, f8⟩ := chg_eff (A := P.1) (K := 1) (p := P.2) (s := sr t) (u := 0) (L := gN P.1 + 1) (k := k) (v := v) (c := gC P.1 P.2) (Or.inl rfl)
  have hJ2 : JJ (aAdd P.1 (aChg 1 P.2 (sr t) 0 (gN P.1 + 1) k v (gC P.1 P.2))) ss := by
    refine JJ_chg p3 p5 hk (Or.inl rfl) (fun _ => p6) (fun z => absurd z (by decide)) (by omega) hs (by rw [a4]; exact hed) (fun s' z1 z2 z3 => ?_) (fun z => absurd rfl z) (by rw [a7, if_pos rfl]; exact hcu)
    rw [a4]
    rw [a3] at z3
    exact hex s' z1 z2 z3
  generalize aAdd P.1 (aChg 1 P.2 (sr t) 0 (gN P.1 + 1) k v (gC P.1 P.2)) = C at *
  refine ⟨hJ2, PL_write hP ht hk h0 hl ho (fun s' => (f4 s').trans (a4 s')) (fun s' j z => ?_) (fun s' j z => ?_), by rw [f7, if_pos rfl, a7]⟩
  · rw [f3, a3, Bool.or_eq_true, decide_eq_true_eq] at z
    exact z
  · rw [f3, a3, z, Bool.true_or]
theorem take_step (hJ : JJ B ss) (hP : PL B sr ss hd ls) (ht : t < 4) (hk : k < 40) (h0 : sr t ≠ 0) (hl : ls k = 0) (ho : oth hd t k 1 = false) (hcu : cUc (gL B) (gN B) + 1 + ss ≤ 512) :
    JJ (aTake B (sr t) k 0 0).1 ss ∧ PL (aTake B (sr t) k 0 0).1 sr ss (up2 hd t k 2) ls ∧ cUc (gL (aTake B (sr t) k 0 0).1) (gN (aTake B (sr t) k 0 0).1) ≤ cUc (gL B) (gN B) + 1 ∧
    (k ∈ (gC (aDown B k).1 (aDown B k).2).2.1 → (aTake B (sr t) k 0 0).2 = gN B + 1 ∧ gN (aTake B (sr t) k 0 0).1 = gN B + 1 ∧ rK (gL (aTake B (sr t) k 0 0).1 (gN B + 1)) = 2 ∧ rB (gL (aTake B (sr t) k 0 0).1 (gN B + 1)) = aOld k (gC (aDown B k).1 (aDown B k).2)) ∧ (k ∉ (gC (aDown B k).1 (aDown B k).2).2.1 → (aTake B (sr t) k 0 0).2 = 0) := by
  obtain ⟨d1, d2, d3, d4, d5, d6⟩ := down_ok hJ hk
  have hex := hP.ex hk hl ho
  have hed := hP.2.1 t ht h0
  have hs := hP.1 t
  have e : aTake B (sr t) k 0 0 = if k ∈ (gC (aDown B k).1 (aDown B k).2).2.1 then (aAdd (aDown B k).1 (aChg 2 (aDown B k).2 (sr t) 0 (aLast 0 (gN B)) k 0 (gC (aDown B k).1 (aDown B k).2)), gN B + 1) else ((aDown B k).1, 0) := rfl
  rw [e]
  generalize aDown B k = D at *
  by_cases hm : k ∈ (gC D.1 D.2).2.1
  · rw [if_pos hm, aLast_e (Nat.zero_le _)]
    dsimp only
    obtain ⟨f1, f2, f3, f4, f5, f6, f7, f8⟩ := chg_eff (A := D.1) (K := 2) (p := D.2) (s := sr t) (u := 0) (L := gN B + 1) (k := k) (v := 0) (c := gC D.1 D.2) (Or.inr rfl)
    have hJ2 : JJ (aAdd D.1 (aChg 2 D.2 (sr t) 0 (gN D.1 + 1) k 0 (gC D.1 D.2))) ss := by
      refine JJ_chg d2 d1 hk (Or.inr rfl) (fun z => absurd z (by decide)) (fun _ => hm) (by omega) hs (by rw [d4, d5]; exact hed) (fun s' z1 z2 z3 => ?_) (fun z => absurd rfl z) (by rw [d4, d5, if_pos rfl]; exact hcu)
      rw [d4, d5]
      rw [d4, d5] at z3
      exact hex s' z1 z2 z3
    rw [d5] at hJ2
    have hN : gN (aAdd D.1 (aChg 2 D.2 (sr t) 0 (gN B + 1) k 0 (gC D.1 D.2))) = gN B + 1 := by rw [log_add.2, d5]
    have hr : gL (aAdd D.1 (aChg 2 D.2 (sr t) 0 (gN B + 1) k 0 (gC D.1 D.2))) (gN B + 1) = aChg 2 D.2 (sr t) 0 (gN B + 1) k 0 (gC D.1 D.2) := by rw [log_add.1, d5, upL_self]
    have hr1 : rK (aChg 2 D.2 (sr t) 0 (gN B + 1) k 0 (gC D.1 D.2)) = 2 := rfl
    have hr2 : rB (aChg 2 D.2 (sr t) 0 (gN B + 1) k 0 (gC D.1 D.2)) = aOld k (gC D.1 D.2) := rfl
    rw [← hr] at hr1 hr2
    clear hr
    generalize aAdd D.1 (aChg 2 D.2 (sr t) 0 (gN B + 1) k 0 (gC D.1 D.2)) = C at *
    refine ⟨hJ2, PL_write hP ht hk h0 hl ho (fun s' => (f4 s').trans (by rw [d4, d5])) (fun s' j z => ?_) (fun s' j z => ?_), by rw [f7, if_pos rfl, d4, d5]; exact Nat.le_refl _, fun _ => ⟨rfl, hN, hr1, hr2⟩, fun z => absurd hm z⟩
    · rw [f3, d4, d5, Bool.or_eq_true, decide_eq_true_eq] at z
      exact z
    · rw [f3, d4, d5, z, Bool.true_or]
  · rw [if_neg hm]
    dsimp only
    refine ⟨d2, PL_write hP ht hk h0 hl ho (fun s' => by rw [d4, d5]) (fun s' j z => ?_) (fun s' j z => ?_), by rw [d4, d5]; exact Nat.le_succ _, fun z => absurd z hm, fun _ => rfl⟩
    · rw [d4, d5] at z
      exact Or.inl z
    · rw [d4, d5]
      exact z
theorem stFo_l {m : Nat} : gL (stFo A m) = gL A ∧ gN (stFo A m) = gN A := by
  obtain ⟨lg, n, fo, im, dm, bk, pl, r, w, e, q⟩ := A
  exact ⟨rfl, rfl⟩
theorem commit_step (hJ : JJ A ss) (hP : PL A sr ss hd ls) (ht : t < 4) (h0 : sr t ≠ 0) : JJ (aCommit A (sr t)) ss ∧ PL (aCommit A (sr t)) (clS sr t) ss (clH hd t) ls ∧ cUc (gL (aCommit A (sr t))) (gN (aCommit A (sr t))) = cUc (gL A) (gN A) := by
  have hed := hP.2.1 t ht h0
  have hs := hP.1 t
  obtain ⟨f1, f2, f3, f4, f5, f6, f7⟩ := end_eff (A := A) (s := sr t) (K := 6) (Or.inl rfl)
  have hJ2 := JJ_end (K := 6) hJ (Or.inl rfl) (by omega) hs hed
  have hN : gN (aEnd A 6 (sr t)) = gN A + 1 := rfl
  unfold aCommit
  generalize aEnd A 6 (sr t) = E at *
  obtain ⟨l1, l2⟩ := stFo_l (A := E) (m := gN A + 1)
  have hJ3 := JJ_fo hJ2 (m := gN A + 1) (by omega)
  generalize stFo E (gN A + 1) = C at *
  exact ⟨hJ3, PL_close hP ht h0 (fun s' => by rw [l1, l2, f3]) (fun s' j => by rw [l1, l2, f2]), by rw [l1, l2, f6]⟩
theorem abort_step (hJ : JJ A ss) (hP : PL A sr ss hd ls) (ht : t < 4) (h0 : sr t ≠ 0) : rokRl (sr t) (gN A) A ∧ okRl (sr t) (gN A) A ∧ JJ (aRoll A (sr t)).1 ss ∧ PL (aRoll A (sr t)).1 (clS sr t) ss (clH hd t) (relL ls (sr t)) ∧ cUc (gL (aRoll A (sr t)).1) (gN (aRoll A (sr t)).1) = cUc (gL A) (gN A) := by
  have hed := hP.2.1 t ht h0
  have hs := hP.1 t
  obtain ⟨r1, r2, r3, r4, r5, r6, r7⟩ := roll_all hJ (by omega) hs hed
  refine ⟨r1, r2, r3, PL_ls (PL_close hP ht h0 r4 r5) (fun k hk => ?_) (relL_le hP.2.2.2.2.2.2.1.2), r7⟩
  unfold relL
  rw [if_neg (fun z => ?_)]
  exact ((hP.2.2.2.2.2.2.1.1 k hk (sr t) (by omega)).mp z).2.2 t ht rfl
end ST
/-! The invariant, and what both programs do at a call. -/
def IX (S : zS) (d : Nat) (A : aSt) (sr : Nat → Nat) (ss g : Nat) (hd : Nat → Nat → Nat) (ls : Nat → Nat) (ck n : Nat) : Prop :=
  lkW S d A sr ss g hd ls ∧ lkQ S ck A sr ss hd ∧ JJ A ss ∧ PL A sr ss hd ls ∧ cUc (gL A) (gN A) + ss ≤ g ∧ g ≤ n ∧ ck ≤ 500000 * n ∧ n ≤ 512
def IV (n : Nat) (t : zT) : Prop := ∃ (A : aSt) (sr : Nat → Nat) (ss g : Nat) (hd : Nat → Nat → Nat) (ls : Nat → Nat) (ck : Nat), IX t.1 t.2 A sr ss g hd ls ck n
section OPS
variable {S S' : zS} {d ck n : Nat} {A B : aSt} {sr : Nat → Nat} {ss g : Nat} {hd : Nat → Nat → Nat} {ls : Nat → Nat}
theorem lkW.lo (h : lkW S d A sr ss g hd ls) (hm : mkp S S') : lkW S' d A sr ss g hd ls := by
  obtain ⟨⟨sl, hsl, k1⟩, g1, g2, g3, g4, g5⟩ := h
  exact ⟨⟨sl, hsl, lkC_fr (fun f i j hf _ _ _ _ _ => hm f i j hf) k1⟩, fun j hj => (hm _ _ _ (by decide)).trans (g1 j hj), (hm _ _ _ (by decide)).trans g2, (hm _ _ _ (by decide)).trans g3, fun t k ht hk => (hm _ _ _ (by decide)).trans (g4 t k ht hk), fun k hk => (hm _ _ _ (by decide)).trans (g5 k hk)⟩
theorem lkQ.hi (h : lkQ S ck A sr ss hd) (hm : hi4 S S') : lkQ S' ck A sr ss hd :=
  ⟨lkM_kp hm h.1, fun j hj => (hm _ _ _ (by decide)).trans (h.2.1 j hj), (hm _ _ _ (by decide)).trans h.2.2.1, fun t k ht hk => (hm _ _ _ (by decide)).trans (h.2.2.2.1 t k ht hk), (hm _ _ _ (by decide)).trans h.2.2.2.2⟩
theorem lkQ.to (h : lkQ S ck A sr ss hd) {ck' : Nat} (hM : lkM S' ck' B) (hm : ∀ f i j, (f = 1053 ∨ f = 1054 ∨ f = 2112 ∨ f = 2176) → S' f i j = S f i j) : lkQ S' ck' B sr ss hd :=
  ⟨hM, fun j hj => (hm _ _ _ (by decide)).trans (h.2.1 j hj), (hm _ _ _ (by decide)).trans h.2.2.1, fun t k ht hk => (hm _ _ _ (by decide)).trans (h.2.2.2.1 t k ht hk), (hm _ _ _ (by decide)).trans h.2.2.2.2⟩
theorem pmc_n {f i : Nat} (h : f < 1024 ∨ f = 1053 ∨ f = 1054 ∨ f = 2112 ∨ f = 2176) : ¬ pmc f i := fun z => by
  have z : f = 1024 ∨ f = 1025 ∨ f = 1026 ∨ f = 1036 ∨ f = 1038 ∨ (1043 ≤ f ∧ f ≤ 1047) ∨ (1088 ≤ f ∧ f ≤ 1920) := z
  omega
theorem IX.next (hW : lkW S d A sr ss g hd ls) (hm : mkp S S') (hQ : lkQ S' ck A sr ss hd) (hJ : JJ A ss) (hP : PL A sr ss hd ls) (h1 : cUc (gL A) (gN A) + ss ≤ g) (h2 : g ≤ n) (h3 : ck ≤ 500000 * n) (h4 : n ≤ 512) : IV n (S', d) :=
  ⟨A, sr, ss, g, hd, ls, ck, hW.lo hm, hQ, hJ, hP, h1, h2, h3, h4⟩
theorem IX.no (h : IX S d A sr ss g hd ls ck n) (hn : n < 512) : ∀ S', (∀ f i j, f ≠ 1024 → S' f i j = S f i j) → IV (n + 1) (S', d) := fun S' hf => by
  obtain ⟨hW, hQ, hJ, hP, c1, c2, c3, c4⟩ := h
  exact IX.next hW (fun f i j z => hf f i j (by omega)) (hQ.to (lkM_fr (fun f i j z => hf f i j (fun e => by rw [e] at z; exact n1024 (i := i) z)) hQ.1) (fun f i j z => hf f i j (by omega))) hJ hP c1 (by omega) (by omega) (by omega)
theorem IX.c0 (h : IX S d A sr ss g hd ls ck n) {t : Nat} (ht : t < 4) (h0 : sr t = 0) : S 960 0 t = 0 := by
  rw [h.1.2.1 t ht, h0]
  rfl
theorem IX.m0 (h : IX S d A sr ss g hd ls ck n) {t : Nat} (ht : t < 4) (h0 : sr t = 0) : S 2112 0 t = 0 := by
  rw [h.2.1.2.1 t ht, h0]
  rfl
theorem ctail {p k : Nat} {c : aCon} (hk : lcon S p c) (hw : wcon c) (hb : c.1 = false) (hm : k ∈ c.2.1) : S 896 p (lidx k c.2.1) = c.2.2.getD (lidx k c.2.1) 0 := by
  have hlt := (lidx_mem hm).1
  have hlt2 : lidx k c.2.1 < c.2.2.length := by
    rw [hw.2.2.1, hb, if_neg (by decide)]
    exact hlt
  obtain ⟨y, hy⟩ := lget hlt2
  rw [hk.2.2.2 _ _ hy, List.getD_eq_getElem?_getD, hy]
  rfl
theorem lkS.c {p : Nat} (h : lkS S d A) (hp : p < 40) : lcon S p (gC A p) := by
  obtain ⟨sl, -, k1⟩ := h
  exact k1.con hp
theorem lkS.rb {m : Nat} (h : lkS S d A) (h1 : 1 ≤ m) (h2 : m ≤ gN A) (hK : rK (gL A m) = 2) : S 207 m 0 = rB (gL A m) := by
  obtain ⟨sl, -, k1⟩ := h
  have := (k1.log.2.2.2.2.2 m h1 h2).2.2
  unfold lrB at this
  rw [hK] at this
  exact this.2.2
-- begin
theorem s0 (h : IX S d A sr ss g hd ls ck n) (hn : n < 512) (a1 : Int32) : ∃ t2, lOpA 0 104 false [.inl a1] (S, d) t2 ∧ IV (n + 1) t2 := by
  rcases ixc (n := 4) (by decide) a1 with ⟨t, ht, rfl⟩ | hx
  · have hs2 : sr t < 2000 := by
      have h1 := h.2.2.2.1.1 t
      have h2 := h.2.2.1.2.2.2.2
      omega
    by_cases h0 : sr t = 0
    · have c0 := h.c0 ht h0
      have m0 := h.m0 ht h0
      obtain ⟨hW, hQ, hJ, hP, c1, c2, c3, c4⟩ := h
      refine opA_of (zwp_mono (k0 (g := g) (sr := ss) ht c0 hW.2.2.2.1 (by omega) hW.2.2.1) (fun o u hu => ?_))
      obtain ⟨rfl, rfl⟩ := hu
      have hi : hi4 S (zu (zu (zu S 7 0 0 (nI (g + 1))) 6 0 0 (nI (ss + 1))) 960 0 t (nI (ss + 1))) := fun f i j hf => by rw [zu_f _ _ (by omega), zu_f _ _ (by omega), zu_f _ _ (by omega)]
      have hW1 : lkW (zu (zu (zu S 7 0 0 (nI (g + 1))) 6 0 0 (nI (ss + 1))) 960 0 t (nI (ss + 1))) d A (upN sr t (ss + 1)) (ss + 1) (g + 1) hd ls := by
        have hk : ∀ f i j, f ≠ 6 → f ≠ 7 → f ≠ 960 → zu (zu (zu S 7 0 0 (nI (g + 1))) 6 0 0 (nI (ss + 1))) 960 0 t (nI (ss + 1)) f i j = S f i j := fun f i j z1 z2 z3 => by rw [zu_f _ _ z3, zu_f _ _ z1, zu_f _ _ z2]
        obtain ⟨⟨sl, hsl, k1⟩, g1, g2, g3, g4, g5⟩ := hW
        refine ⟨⟨sl, hsl, lkC_fr (fun f i j _ z1 z2 _ _ z3 => hk f i j z1 z2 z3) k1⟩, fun j hj => ?_, ?_, ?_, fun t' k ht' hk2 => (hk _ _ _ (by decide) (by decide) (by decide)).trans (g4 t' k ht' hk2), fun k hk2 => (hk _ _ _ (by decide) (by decide) (by decide)).trans (g5 k hk2)⟩
        · unfold upN
          by_cases e : j = t
          · rw [if_pos e, e, zu_self]
          · rw [if_neg e, zu_j _ _ e, zu_f _ _ (by decide), zu_f _ _ (by decide)]
            exact g1 j hj
        · rw [zu_f _ _ (by decide), zu_self]
        · rw [zu_f _ _ (by decide), zu_f _ _ (by decide), zu_self]
      have hQ1 := hQ.hi hi
      generalize zu (zu (zu S 7 0 0 (nI (g + 1))) 6 0 0 (nI (ss + 1))) 960 0 t (nI (ss + 1)) = S1 at *
      have m1 : S1 2112 0 t = 0 := by
        rw [hQ1.2.1 t ht, h0]
        rfl
      refine ⟨Or.inl ⟨_, rfl⟩, zwp_mono (r104 (sr := ss) ht m1 hQ1.2.2.1) (fun o u hu => ?_)⟩
      obtain ⟨rfl, rfl⟩ := hu
      have hk : ∀ f i j, f ≠ 1024 → f ≠ 1053 → f ≠ 2112 → zu (zu (zu S1 1024 0 0 (nI 0)) 1053 0 0 (nI (ss + 1))) 2112 0 t (nI (ss + 1)) f i j = S1 f i j := fun f i j z1 z2 z3 => by rw [zu_f _ _ z3, zu_f _ _ z2, zu_f _ _ z1]
      refine ⟨_, rfl, ?_, fun x hx => (by cases hx; rfl), IX.next hW1 (fun f i j hf => hk f i j (by omega) (by omega) (by omega)) ⟨lkM_fr (fun f i j z => ?_) hQ1.1, fun j hj => ?_, ?_, fun t' k ht' hk2 => (hk _ _ _ (by decide) (by decide) (by decide)).trans (hQ1.2.2.2.1 t' k ht' hk2), (hk _ _ _ (by decide) (by decide) (by decide)).trans hQ1.2.2.2.2⟩ ⟨hJ.1, hJ.2.1, hJ.2.2.1, fun j hj => Nat.le_succ_of_le (hJ.2.2.2.1 j hj), by omega⟩ (PL_begin hP hJ h0) (by omega) (by omega) (by omega) (by omega)⟩
      · dsimp only
        rw [zu_f _ _ (by decide), zu_f _ _ (by decide), zu_self]
        rfl
      · have z : f = 1025 ∨ f = 1026 ∨ f = 1036 ∨ f = 1038 ∨ (1043 ≤ f ∧ f ≤ 1047) ∨ (1088 ≤ f ∧ f ≤ 1920) := z
        exact hk f i j (by omega) (by omega) (by omega)
      · unfold upN
        by_cases e : j = t
        · rw [if_pos e, e, zu_self]
        · rw [if_neg e, zu_j _ _ e, zu_f _ _ (by decide), zu_f _ _ (by decide)]
          exact hQ1.2.1 j hj
      · rw [zu_f _ _ (by decide), zu_self]
    · refine opA_no (Or.inr rfl) (k0s ht ?_) (r104s ht (h.2.1.2.1 t ht) (by omega) hs2) (h.no hn)
      rw [h.1.2.1 t ht, ← nI_0, nI_eq_iff (by omega) (by decide)]
      exact h0
  · exact opA_no (Or.inl rfl) (k0i hx) (r104i hx) (h.no hn)
-- get
theorem s1 (h : IX S d A sr ss g hd ls ck n) (hn : n < 512) (a1 a2 : Int32) : ∃ t2, lOpA 1 106 true [.inl a1, .inl a2] (S, d) t2 ∧ IV (n + 1) t2 := by
  rcases badPK a1 a2 with hx | ⟨t, k, ht, hk, rfl, rfl⟩
  · exact opA_no (Or.inl rfl) (k1i hx) (r106f (Or.inl rfl) (r105i hx)) (h.no hn)
  by_cases h0 : sr t = 0
  · exact opA_no (Or.inr rfl) (k1s ht hk (h.c0 ht h0)) (r106f (Or.inr rfl) (r105s ht hk (h.m0 ht h0))) (h.no hn)
  cases hB : aClr A ls k with
  | mk B ls' =>
    obtain ⟨hW, hQ, hJ, hP, c1, c2, c3, c4⟩ := h
    have h512 := hJ.2.2.2.2
    have hsr : ∀ j, sr j < 2000 := fun j => by
      have := hP.1 j
      omega
    obtain ⟨o1, o2, JB, PB, l0, cu⟩ := clr_ok hJ hP hk hB
    obtain ⟨e1, e2, e3, e4, e5, e6⟩ := down_ok JB hk
    have nA := hJ.n
    have nB := JB.n
    refine opA_of (zwp_mono (k1 hW h0 (hsr t) ht hk (hP.wl (by omega)) hP.2.2.2.1 hB o1 JB.1.1.1 (JB.1.2.2.2.1.k JB.1.1.1)) (fun o u hu => ?_))
    obtain ⟨S1, d1, rfl, g4, hu⟩ := hu
    have hQ1 := hQ.hi g4
    rcases hu with ⟨z, rfl, hW1⟩ | ⟨z, rfl, hW1⟩
    · refine ⟨Or.inr (Or.inr (Or.inl rfl)), r106 hQ1 hJ.1 hsr h0 hP.2.2.2.1 ht hk (by omega) hP.R hB o2 JB.1 PB.R (by omega) (hP.h1 ht hk) e1.2.1 (fun _ S2 ck2 q2 m2 v2 v3 => ?_) (fun y => absurd z y)⟩
      exact ⟨_, rfl, v3, fun x hx => (by cases hx), IX.next hW1 m2 q2 JB PB (by omega) (by omega) (by omega) (by omega)⟩
    · have PN := PL_same (PL_read PB ht hk l0 z) e4 e5
      have cN : cUc (gL (aDown B k).1) (gN (aDown B k).1) = cUc (gL A) (gN A) := by rw [e4, e5, cu]
      by_cases hm : k ∈ (gC (aDown B k).1 (aDown B k).2).2.1
      · rw [if_pos hm]
        refine ⟨Or.inl ⟨_, rfl⟩, r106 hQ1 hJ.1 hsr h0 hP.2.2.2.1 ht hk (by omega) hP.R hB o2 JB.1 PB.R (by omega) (hP.h1 ht hk) e1.2.1 (fun y => absurd y z) (fun _ S2 ck2 q2 m2 v2 => ⟨fun _ v3 => ⟨_, rfl, v3, fun x hx => ?_, IX.next hW1 m2 q2 e2 PN (by omega) (by omega) (by omega) (by omega)⟩, fun y => absurd hm y⟩)⟩
        cases hx
        exact ctail (hW1.1.c (Nat.lt_of_lt_of_le e1.1 (gM_le e2.1.1.1))) (e2.1.1.1.con _) e1.2.1 hm
      · rw [if_neg hm]
        exact ⟨Or.inr (Or.inr (Or.inr ⟨rfl, rfl⟩)), r106 hQ1 hJ.1 hsr h0 hP.2.2.2.1 ht hk (by omega) hP.R hB o2 JB.1 PB.R (by omega) (hP.h1 ht hk) e1.2.1 (fun y => absurd y z) (fun _ S2 ck2 q2 m2 v2 => ⟨fun y => absurd y hm, fun _ v3 => ⟨_, rfl, v3, fun x hx => (by cases hx), IX.next hW1 m2 q2 e2 PN (by omega) (by omega) (by omega) (by omega)⟩⟩)⟩
-- put
theorem s2 (h : IX S d A sr ss g hd ls ck n) (hn : n < 512) (a1 a2 v : Int32) : ∃ t2, lOpA 2 107 false [.inl a1, .inl a2, .inl v] (S, d) t2 ∧ IV (n + 1) t2 := by
  rcases badPK a1 a2 with hx | ⟨t, k, ht, hk, rfl, rfl⟩
  · exact opA_no (Or.inl rfl) (k2i hx) (r107f (Or.inl rfl) (r105i hx)) (h.no hn)
  by_cases h0 : sr t = 0
  · exact opA_no (Or.inr rfl) (k2s ht hk (h.c0 ht h0)) (r107f (Or.inr rfl) (r105s ht hk (h.m0 ht h0))) (h.no hn)
  cases hB : aClr A ls k with
  | mk B ls' =>
    obtain ⟨hW, hQ, hJ, hP, c1, c2, c3, c4⟩ := h
    have h512 := hJ.2.2.2.2
    have hsr : ∀ j, sr j < 2000 := fun j => by
      have := hP.1 j
      omega
    obtain ⟨o1, o2, JB, PB, l0, cu⟩ := clr_ok hJ hP hk hB
    obtain ⟨p1, p2, -⟩ := put_ok JB hk
    have nA := hJ.n
    have nB := JB.n
    refine opA_of (zwp_mono (k2 (v := v) hW h0 (hsr t) (by omega) ht hk (hP.wl (by omega)) hP.2.2.2.1 hB o1 JB.1.1.1 (JB.1.2.2.2.1.k JB.1.1.1) (fun _ => p2)) (fun o u hu => ?_))
    obtain ⟨S1, d1, rfl, g4, hu⟩ := hu
    have hQ1 := hQ.hi g4
    rcases hu with ⟨z, rfl, hW1⟩ | ⟨z, rfl, hW1⟩
    · refine ⟨Or.inr (Or.inr (Or.inl rfl)), r107 hQ1 hJ.1 hsr h0 hP.2.2.2.1 ht hk (by omega) hP.R hB o2 JB.1 PB.R (by omega) (hP.h2 ht hk) (fun _ => p1) (fun _ S2 ck2 q2 m2 v2 v3 => ?_) (fun y => by rw [z] at y; cases y)⟩
      exact ⟨_, rfl, v3, fun x hx => (by cases hx), IX.next hW1 m2 q2 JB PB (by omega) (by omega) (by omega) (by omega)⟩
    · obtain ⟨J2, P2, u2⟩ := put_step (v := v) JB PB ht hk h0 l0 z (by omega)
      refine ⟨Or.inl ⟨_, rfl⟩, r107 hQ1 hJ.1 hsr h0 hP.2.2.2.1 ht hk (by omega) hP.R hB o2 JB.1 PB.R (by omega) (hP.h2 ht hk) (fun _ => p1) (fun y => by rw [z] at y; cases y) (fun _ S2 ck2 q2 m2 v2 v3 => ⟨_, rfl, v3, fun x hx => (by cases hx; rfl), IX.next hW1 m2 q2 J2 P2 (by omega) (by omega) (by omega) (by omega)⟩)⟩
-- remove
theorem s3 (h : IX S d A sr ss g hd ls ck n) (hn : n < 512) (a1 a2 : Int32) : ∃ t2, lOpA 3 108 true [.inl a1, .inl a2] (S, d) t2 ∧ IV (n + 1) t2 := by
  rcases badPK a1 a2 with hx | ⟨t, k, ht, hk, rfl, rfl⟩
  · exact opA_no (Or.inl rfl) (k3i hx) (r108f (Or.inl rfl) (r105i hx)) (h.no hn)
  by_cases h0 : sr t = 0
  · exact opA_no (Or.inr rfl) (k3s ht hk (h.c0 ht h0)) (r108f (Or.inr rfl) (r105s ht hk (h.m0 ht h0))) (h.no hn)
  cases hB : aClr A ls k with
  | mk B ls' =>
    obtain ⟨hW, hQ, hJ, hP, c1, c2, c3, c4⟩ := h
    have h512 := hJ.2.2.2.2
    have hsr : ∀ j, sr j < 2000 := fun j => by
      have := hP.1 j
      omega
    obtain ⟨o1, o2, JB, PB, l0, cu⟩ := clr_ok hJ hP hk hB
    obtain ⟨e1, e2, -⟩ := down_ok JB hk
    have nA := hJ.n
    have nB := JB.n
    refine opA_of (zwp_mono (k3 hW h0 (hsr t) (by omega) ht hk (hP.wl (by omega)) hP.2.2.2.1 hB o1 JB.1.1.1 (JB.1.2.2.2.1.k JB.1.1.1) (by omega) (fun _ => e1.2.1)) (fun o u hu => ?_))
    obtain ⟨S1, d1, rfl, g4, hu⟩ := hu
    have hQ1 := hQ.hi g4
    rcases hu with ⟨z, rfl, hW1⟩ | ⟨z, rfl, hW1⟩
    · refine ⟨Or.inr (Or.inr (Or.inl rfl)), r108 hQ1 hJ.1 hsr h0 hP.2.2.2.1 ht hk (by omega) hP.R hB o2 JB.1 PB.R (by omega) (hP.h2 ht hk) (by omega) e1.2.1 (fun _ S2 ck2 q2 m2 v2 v3 => ?_) (fun y => by rw [z] at y; cases y)⟩
      exact ⟨_, rfl, v3, fun x hx => (by cases hx), IX.next hW1 m2 q2 JB PB (by omega) (by omega) (by omega) (by omega)⟩
    · obtain ⟨J2, P2, u2, t1, t2⟩ := take_step JB PB ht hk h0 l0 z (by omega)
      by_cases hm : k ∈ (gC (aDown B k).1 (aDown B k).2).2.1
      · obtain ⟨i1, i2, i3, i4⟩ := t1 hm
        rw [if_neg (by omega)]
        refine ⟨Or.inl ⟨_, rfl⟩, r108 hQ1 hJ.1 hsr h0 hP.2.2.2.1 ht hk (by omega) hP.R hB o2 JB.1 PB.R (by omega) (hP.h2 ht hk) (by omega) e1.2.1 (fun y => by rw [z] at y; cases y) (fun _ S2 ck2 q2 m2 v2 => ⟨fun _ v3 => ⟨_, rfl, v3, fun x hx => ?_, IX.next hW1 m2 q2 J2 P2 (by omega) (by omega) (by omega) (by omega)⟩, fun y => absurd hm y⟩)⟩
        cases hx
        rw [i1, hW1.1.rb (by omega) (by omega) i3, i4]
      · have i1 := t2 hm
        rw [if_pos i1]
        exact ⟨Or.inr (Or.inr (Or.inr ⟨rfl, rfl⟩)), r108 hQ1 hJ.1 hsr h0 hP.2.2.2.1 ht hk (by omega) hP.R hB o2 JB.1 PB.R (by omega) (hP.h2 ht hk) (by omega) e1.2.1 (fun y => by rw [z] at y; cases y) (fun _ S2 ck2 q2 m2 v2 => ⟨fun y => absurd y hm, fun _ v3 => ⟨_, rfl, v3, fun x hx => (by cases hx), IX.next hW1 m2 q2 J2 P2 (by omega) (by omega) (by omega) (by omega)⟩⟩)⟩
-- commit, abort
theorem s4 (h : IX S d A sr ss g hd ls ck n) (hn : n < 512) (a1 : Int32) : ∃ t2, lOpA 4 109 false [.inl a1] (S, d) t2 ∧ IV (n + 1) t2 := by
  rcases ixc (n := 4) (by decide) a1 with ⟨t, ht, rfl⟩ | hx
  · by_cases h0 : sr t = 0
    · exact opA_no (Or.inr rfl) (k4s ht (h.c0 ht h0)) (r109s ht (h.m0 ht h0)) (h.no hn)
    · obtain ⟨hW, hQ, hJ, hP, c1, c2, c3, c4⟩ := h
      have h512 := hJ.2.2.2.2
      have hsr : ∀ j, sr j < 2000 := fun j => by
        have := hP.1 j
        omega
      have nA := hJ.n
      obtain ⟨J2, P2, u2⟩ := commit_step hJ hP ht h0
      refine opA_of (zwp_mono (k4 hW h0 (hsr t) ht hJ.1.1.1 (by omega)) (fun o u hu => ?_))
      obtain ⟨S1, d1, rfl, g4, rfl, hW1⟩ := hu
      exact ⟨Or.inl ⟨_, rfl⟩, r109 (hQ.hi g4) hJ.1 hsr h0 ht (by omega) (fun S2 q2 m2 v3 => ⟨_, rfl, v3, fun x hx => (by cases hx; rfl), IX.next hW1 m2 q2 J2 P2 (by omega) (by omega) (by omega) (by omega)⟩)⟩
  · exact opA_no (Or.inl rfl) (k4i hx) (r109i hx) (h.no hn)
theorem s5 (h : IX S d A sr ss g hd ls ck n) (hn : n < 512) (a1 : Int32) : ∃ t2, lOpA 5 110 false [.inl a1] (S, d) t2 ∧ IV (n + 1) t2 := by
  rcases ixc (n := 4) (by decide) a1 with ⟨t, ht, rfl⟩ | hx
  · by_cases h0 : sr t = 0
    · exact opA_no (Or.inr rfl) (k5s ht (h.c0 ht h0)) (r110s ht (h.m0 ht h0)) (h.no hn)
    · obtain ⟨hW, hQ, hJ, hP, c1, c2, c3, c4⟩ := h
      have h512 := hJ.2.2.2.2
      have hsr : ∀ j, sr j < 2000 := fun j => by
        have := hP.1 j
        omega
      have nA := hJ.n
      obtain ⟨r1, r2, J2, P2, u2⟩ := abort_step hJ hP ht h0
      have nB := J2.n
      refine opA_of (zwp_mono (k5 hW h0 (hsr t) ht (hP.wl (by omega)) r2) (fun o u hu => ?_))
      obtain ⟨S1, d1, rfl, g4, rfl, hW1⟩ := hu
      exact ⟨Or.inl ⟨_, rfl⟩, r110 (hQ.hi g4) hsr h0 ht r1 (by omega) (fun S2 ck2 q2 m2 v2 v3 => ⟨_, rfl, v3, fun x hx => (by cases hx; rfl), IX.next hW1 m2 q2 J2 P2 (by omega) (by omega) (by omega) (by omega)⟩)⟩
  · exact opA_no (Or.inl rfl) (k5i hx) (r110i hx) (h.no hn)
-- settle
theorem s6 (h : IX S d A sr ss g hd ls ck n) (hn : n < 512) : ∃ t2, lOpB 6 111 [] (S, d) t2 ∧ IV (n + 1) t2 := by
  obtain ⟨hW, hQ, hJ, hP, c1, c2, c3, c4⟩ := h
  have h512 := hJ.2.2.2.2
  have hsr : ∀ j, sr j < 2000 := fun j => by
    have := hP.1 j
    omega
  obtain ⟨r1, r2, J2, P2, u2⟩ := sett_ok 40 A ls 0 hJ hP (nz_le ls 40)
  have nB := J2.n
  refine opB_of (zwp_mono (k6 hW (hP.wl (by omega)) r2) (fun o u hu => ?_))
  obtain ⟨S1, d1, rfl, g4, rfl, hW1⟩ := hu
  exact ⟨_, rfl, r111 hsr (by omega) r1 (hQ.hi g4) (by omega) (fun S2 ck2 q2 m2 _ v2 => ⟨rfl, IX.next hW1 m2 q2 J2 P2 (by omega) (by omega) (by omega) (by omega)⟩)⟩
-- flush, backup, damage
theorem s7 (h : IX S d A sr ss g hd ls ck n) (hn : n < 512) (a1 : Int32) : ∃ t2, lOpB 7 113 [.inl a1] (S, d) t2 ∧ IV (n + 1) t2 := by
  obtain ⟨hW, hQ, hJ, hP, c1, c2, c3, c4⟩ := h
  obtain ⟨J2, l1, l2⟩ := JJ_flush (x := a1) hJ
  have hM := gM_le hJ.1.1.1
  obtain ⟨sl, hsl, hlC⟩ := id hW.1
  refine opB_of (zwp_mono (k7 hlC hJ.1.1.1 hM) (fun o t hu => ?_))
  obtain ⟨S1, rfl, rfl, g1, g2⟩ := hu
  refine ⟨_, rfl, zwp_mono (r113 (lkM_kp (mrest g2) hQ.1) hJ.1.1.1 hJ.1.1.2.1 hM (by omega)) (fun o t hu => ?_)⟩
  obtain ⟨S2, rfl, rfl, f2, -, q2⟩ := hu
  generalize (aFlush A a1).2 = B at *
  have hW1 : lkW S1 d B sr ss g hd ls := hW.kp ⟨sl, by rw [l2]; exact hsl, g1⟩ g2
  exact ⟨rfl, IX.next hW1 (fun f i j hf => f2 f i j (pmc_n (Or.inl hf))) ((hQ.hi (mrest g2)).to q2 (fun f i j hf => f2 f i j (pmc_n (Or.inr hf)))) J2 (PL_same hP l1 l2) (by rw [l1, l2]; exact c1) (by omega) (by omega) (by omega)⟩
theorem s8 (h : IX S d A sr ss g hd ls ck n) (hn : n < 512) (a1 : Int32) : ∃ t2, lOpB 8 114 [.inl a1] (S, d) t2 ∧ IV (n + 1) t2 := by
  obtain ⟨hW, hQ, hJ, hP, c1, c2, c3, c4⟩ := h
  obtain ⟨J2, l1, l2⟩ := JJ_backup (x := a1) hJ
  have hM := gM_le hJ.1.1.1
  obtain ⟨sl, hsl, hlC⟩ := id hW.1
  refine opB_of (zwp_mono (k8 hlC hJ.1.1.1 hM) (fun o t hu => ?_))
  obtain ⟨S1, rfl, rfl, g1, g2⟩ := hu
  refine ⟨_, rfl, zwp_mono (r114 (lkM_kp (mrest g2) hQ.1) hJ.1.1.1 hJ.1.1.2.1 (fun p hp => (wM_fix hJ.1.1 hp).2.1) hM (by omega)) (fun o t hu => ?_)⟩
  obtain ⟨S2, rfl, rfl, f2, -, ck2, v2, q2⟩ := hu
  generalize (aBackup A a1).2 = B at *
  have hW1 : lkW S1 d B sr ss g hd ls := hW.kp ⟨sl, by rw [l2]; exact hsl, g1⟩ g2
  exact ⟨rfl, IX.next hW1 (fun f i j hf => f2 f i j (pmc_n (Or.inl hf))) ((hQ.hi (mrest g2)).to q2 (fun f i j hf => f2 f i j (pmc_n (Or.inr hf)))) J2 (PL_same hP l1 l2) (by rw [l1, l2]; exact c1) (by omega) (by omega) (by omega)⟩
theorem s9 (h : IX S d A sr ss g hd ls ck n) (hn : n < 512) (a1 : Int32) : ∃ t2, lOpB 9 115 [.inl a1] (S, d) t2 ∧ IV (n + 1) t2 := by
  obtain ⟨hW, hQ, hJ, hP, c1, c2, c3, c4⟩ := h
  obtain ⟨J2, l1, l2⟩ := JJ_damage (x := a1) hJ
  have hM := gM_le hJ.1.1.1
  obtain ⟨sl, hsl, hlC⟩ := id hW.1
  refine opB_of (zwp_mono (k9 hlC hM) (fun o t hu => ?_))
  obtain ⟨S1, rfl, rfl, g1, g2⟩ := hu
  refine ⟨_, rfl, zwp_mono (r115 (lkM_kp (mrest g2) hQ.1) hM) (fun o t hu => ?_)⟩
  obtain ⟨S2, rfl, rfl, f2, -, q2⟩ := hu
  generalize (aDamage A a1).2 = B at *
  have hW1 : lkW S1 d B sr ss g hd ls := hW.kp ⟨sl, by rw [l2]; exact hsl, g1⟩ g2
  exact ⟨rfl, IX.next hW1 (fun f i j hf => f2 f i j (pmc_n (Or.inl hf))) ((hQ.hi (mrest g2)).to q2 (fun f i j hf => f2 f i j (pmc_n (Or.inr hf)))) J2 (PL_same hP l1 l2) (by rw [l1, l2]; exact c1) (by omega) (by omega) (by omega)⟩
-- crash
theorem s10 (h : IX S d A sr ss g hd ls ck n) (hn : n < 512) : ∃ t2, lOpB 10 116 [] (S, d) t2 ∧ IV (n + 1) t2 := by
  obtain ⟨hW, hQ, hJ, hP, c1, c2, c3, c4⟩ := h
  have h512 := hJ.2.2.2.2
  have hrW := hJ.2.2.2.1
  obtain ⟨sl, hsl, hlC⟩ := hW.1
  obtain ⟨lg, m, fo, im, dm, bk, pl, r, w, e, q⟩ := A
  obtain ⟨J2, b1, b2, b3, b4, b5, b6, b7, b8⟩ := JJ_crash hJ
  have hrW : ∀ j, j < m → rW (lg (j + 1)) ≤ ss := hrW
  have P2 := PL_crash (n := m) (im := im) (dm := dm) (bk := bk) (pl := pl) (r := r) (w := w) (e := e) (q := q) b7 (fun j hj => hrW j (Nat.lt_of_lt_of_le hj b1))
  have hv : ccl (losOf lg fo) 40 (lla (losOf lg fo) 0 40) = nlo lg fo (fun _ => 0) ss := los_n (P2.S J2)
  have hcu : cUc lg m + ss ≤ g := c1
  have hc2 : cUc (gL (aCrash (lg, m, fo, im, dm, bk, pl, r, w, e, q))) (gN (aCrash (lg, m, fo, im, dm, bk, pl, r, w, e, q))) + ss ≤ g := by
    show cUc lg fo + ss ≤ g
    omega
  refine opB_of (zwp_mono (k10 hlC hW.2.2.2.2.1 b1 b2 b3 b4) (fun o t hu => ?_))
  obtain ⟨S1, rfl, rfl, g1, ⟨g2, g3, g4⟩, g5⟩ := hu
  have hk : hi4 S S1 := fun f i j hf => g5 f i j (fun z => z (Or.inr (Or.inr hf)))
  have hQ1 := hQ.hi hk
  refine ⟨_, rfl, zwp_mono (r116 (ss := ss) hQ1.1 b2 b1 b5 b6 hQ1.2.2.1 (by omega)) (fun o t hu => ?_)⟩
  obtain ⟨S2, rfl, rfl, f2, -, q2, q3, q4⟩ := hu
  rw [hv]
  generalize aCrash (lg, m, fo, im, dm, bk, pl, r, w, e, q) = B at *
  have hnf : ∀ f i, (f < 1024 ∨ f = 1053 ∨ f = 1054) → ¬ (f = 1024 ∨ pmm f i ∨ f = 2112 ∨ f = 2176) := fun f i hf z => by
    have z : f = 1024 ∨ (f = 1025 ∨ f = 1026 ∨ f = 1036 ∨ f = 1038 ∨ (1043 ≤ f ∧ f ≤ 1047) ∨ (1088 ≤ f ∧ f ≤ 1920)) ∨ f = 2112 ∨ f = 2176 := z
    omega
  have hW1 : lkW S1 d B (fun _ => 0) ss g (fun _ _ => 0) (losOf lg fo) := ⟨⟨0, Nat.zero_le _, g1⟩, g3, (g5 6 0 0 (fun z => z (Or.inl rfl))).trans hW.2.2.1, (g5 7 0 0 (fun z => z (Or.inr (Or.inl rfl)))).trans hW.2.2.2.1, g2, g4⟩
  exact ⟨rfl, IX.next hW1 (fun f i j hf => f2 f i j (hnf f i (Or.inl hf))) ⟨q2, q3, (f2 1053 0 0 (hnf _ _ (by omega))).trans hQ1.2.2.1, q4, (f2 1054 0 0 (hnf _ _ (by omega))).trans hQ1.2.2.2.2⟩ J2 P2 hc2 (by omega) (by omega) (by omega)⟩
-- the calls that only look
theorem IX.look (h : IX S d A sr ss g hd ls ck n) (hn : n < 512) (hm : ∀ f i j, f ≠ 1024 → ¬ plk f i → S' f i j = S f i j) : IV (n + 1) (S', d) := by
  obtain ⟨hW, hQ, hJ, hP, c1, c2, c3, c4⟩ := h
  have hk : ∀ f i, (f < 1024 ∨ f = 1053 ∨ f = 1054 ∨ f = 2112 ∨ f = 2176) → ¬ plk f i := fun f i hf z => by
    have z : f = 1048 ∨ f = 1049 ∨ f = 1984 ∨ f = 2048 := z
    omega
  refine IX.next hW (fun f i j z => hm f i j (by omega) (hk f i (Or.inl z))) (hQ.to (lkM_fr (fun f i j z => ?_) hQ.1) (fun f i j z => hm f i j (by omega) (hk f i (Or.inr z)))) hJ hP c1 (by omega) (by omega) (by omega)
  have z : f = 1025 ∨ f = 1026 ∨ f = 1036 ∨ f = 1038 ∨ (1043 ≤ f ∧ f ≤ 1047) ∨ (1088 ≤ f ∧ f ≤ 1920) := z
  refine hm f i j (by omega) (fun y => ?_)
  have y : f = 1048 ∨ f = 1049 ∨ f = 1984 ∨ f = 2048 := y
  omega
theorem s11 (h : IX S d A sr ss g hd ls ck n) (hn : n < 512) (a1 a2 : Int32) : ∃ t2, lOpB 11 118 [.inl a1, .inl a2] (S, d) t2 ∧ IV (n + 1) t2 := by
  have hM := gM_le h.2.2.1.1.1.1
  obtain ⟨sl, hsl, hlC⟩ := h.1.1
  refine opB_of (zwp_mono (k11 hlC h.2.2.1.1.1.1 hM) (fun o t hu => ?_))
  obtain ⟨rfl, rfl⟩ := hu
  have c3 := h.2.2.2.2.2.2.1
  refine ⟨_, rfl, zwp_mono (r118 h.2.1.1 h.2.2.1.1.1.1 hM (by omega)) (fun o t hu => ?_)⟩
  obtain ⟨rfl, rfl⟩ := hu
  exact ⟨rfl, h.look hn (fun f i j z _ => zu_f _ _ z)⟩
theorem s12 (h : IX S d A sr ss g hd ls ck n) (hn : n < 512) (a1 a2 : Int32) : ∃ t2, lOpB 12 119 [.inl a1, .inl a2] (S, d) t2 ∧ IV (n + 1) t2 := by
  have hM := gM_le h.2.2.1.1.1.1
  obtain ⟨sl, hsl, hlC⟩ := h.1.1
  have hfm := h.2.2.1.1.fm
  refine opB_of (zwp_mono (k12 hlC h.2.2.1.1.1.1 hM) (fun o t hu => ?_))
  obtain ⟨rfl, rfl⟩ := hu
  refine ⟨_, rfl, zwp_mono (r119 h.2.1.1 h.2.2.1.1.1.1 h.2.2.1.1.1.2.2.2.1 h.2.2.1.1.1.2.2.2.2 (by omega) hM) (fun o t hu => ?_)⟩
  obtain ⟨S2, rfl, rfl, f2, -, -⟩ := hu
  exact ⟨rfl, h.look hn (fun f i j z1 z2 => f2 f i j (fun y => y.elim z1 z2))⟩
theorem s13 (h : IX S d A sr ss g hd ls ck n) (hn : n < 512) (a1 : Int32) : ∃ t2, lOpB 13 120 [.inl a1] (S, d) t2 ∧ IV (n + 1) t2 := by
  obtain ⟨sl, hsl, hlC⟩ := h.1.1
  have h512 := h.2.2.1.2.2.2.2
  have hP := h.2.2.2.1
  have hsr : ∀ j, sr j < 2000 := fun j => by
    have := hP.1 j
    omega
  refine opB_of (zwp_mono (k13 hlC h.1.2.2.1 h.1.2.2.2.2.2 (hP.wl (by omega))) (fun o t hu => ?_))
  obtain ⟨rfl, rfl⟩ := hu
  refine ⟨_, rfl, zwp_mono (r120 (ss := ss) h.2.1.1 h.2.2.1.1.1.1 h.2.1.2.1 hsr h.2.1.2.2.1 (by omega)) (fun o t hu => ?_)⟩
  obtain ⟨rfl, rfl⟩ := hu
  rw [los_n (hP.S h.2.2.1)]
  exact ⟨rfl, h.look hn (fun f i j z _ => zu_f _ _ z)⟩
theorem s14 (h : IX S d A sr ss g hd ls ck n) (hn : n < 512) (a1 a2 : Int32) : ∃ t2, lOpB 14 121 [.inl a1, .inl a2] (S, d) t2 ∧ IV (n + 1) t2 := by
  obtain ⟨sl, hsl, hlC⟩ := h.1.1
  refine opB_of (zwp_mono (k14 hlC h.2.2.1.1.1.1) (fun o t hu => ?_))
  obtain ⟨rfl, rfl⟩ := hu
  refine ⟨_, rfl, zwp_mono (r121 h.2.1.1 h.2.2.1.1.1.1) (fun o t hu => ?_)⟩
  obtain ⟨rfl, rfl⟩ := hu
  exact ⟨rfl, h.look hn (fun f i j z _ => zu_f _ _ z)⟩
theorem s15 (h : IX S d A sr ss g hd ls ck n) (hn : n < 512) (a1 a2 : Int32) : ∃ t2, lOpB 15 122 [.inl a1, .inl a2] (S, d) t2 ∧ IV (n + 1) t2 := by
  have h512 := h.2.2.1.2.2.2.2
  have hP := h.2.2.2.1
  have hsr : ∀ j, sr j < 2000 := fun j => by
    have := hP.1 j
    omega
  refine opB_of (zwp_mono (k15 h.1.2.1 h.1.2.2.2.2.1 hsr) (fun o t hu => ?_))
  obtain ⟨rfl, rfl⟩ := hu
  refine ⟨_, rfl, zwp_mono (r122 h.2.1.2.1 h.2.1.2.2.2.1 hsr) (fun o t hu => ?_)⟩
  obtain ⟨rfl, rfl⟩ := hu
  exact ⟨rfl, h.look hn (fun f i j z _ => zu_f _ _ z)⟩
end OPS
theorem IV_step (n : Nat) (t : zT) (hn : n < 512) (h : IV n t) (op : Nat) (a1 a2 a3 : Int32) (hop : op < 16) : ∃ t2, lOp op a1 a2 a3 t t2 ∧ IV (n + 1) t2 := by
  obtain ⟨S, d⟩ := t
  obtain ⟨A, sr, ss, g, hd, ls, ck, h⟩ := h
  have hkk : op = 0 ∨ op = 1 ∨ op = 2 ∨ op = 3 ∨ op = 4 ∨ op = 5 ∨ op = 6 ∨ op = 7 ∨ op = 8 ∨ op = 9 ∨ op = 10 ∨ op = 11 ∨ op = 12 ∨ op = 13 ∨ op = 14 ∨ op = 15 := by omega
  rcases hkk with rfl | rfl | rfl | rfl | rfl | rfl | rfl | rfl | rfl | rfl | rfl | rfl | rfl | rfl | rfl | rfl
  · exact s0 h hn a1
  · exact s1 h hn a1 a2
  · exact s2 h hn a1 a2 a3
  · exact s3 h hn a1 a2
  · exact s4 h hn a1
  · exact s5 h hn a1
  · exact s6 h hn
  · exact s7 h hn a1
  · exact s8 h hn a1
  · exact s9 h hn a1
  · exact s10 h hn
  · exact s11 h hn a1 a2
  · exact s12 h hn a1 a2
  · exact s13 h hn a1
  · exact s14 h hn a1 a2
  · exact s15 h hn a1 a2
theorem IV_made (n : Nat) (t : zT) (h : IV n t) : t.2 ≤ 1144 := by
  obtain ⟨A, sr, ss, g, hd, ls, ck, ⟨⟨sl, -, k1⟩, -⟩, -⟩ := h
  have := k1.rows.2.2
  omega
-- a fresh one
theorem IV_0 : IV 0 (cS0, 0) := by
  have hTl : Tl fL 0 := by
    refine ⟨⟨fun _ => 0, fun _ => 40, fun _ => 0, fun _ => 0, rfl, rfl, fun p hp => ?_, rfl⟩, by decide, by decide⟩
    have hp : p < 1 := hp
    have : p = 0 := by omega
    subst this
    exact ⟨by decide, by decide, fun z => absurd rfl z, fun _ => ⟨rfl, List.Pairwise.nil, fun k => ⟨fun z => (by cases z), fun z => (by cases z.2.2)⟩⟩, fun z => (by cases z)⟩
  have hTR : TR fL 0 := fun j hj => by omega
  refine ⟨fA, fun _ => 0, 0, 0, fun _ _ => 0, fun _ => 0, 0, ⟨⟨0, Nat.le_refl _, f_lkC⟩, fun j _ => rfl, rfl, rfl, f_held, f_los⟩, ⟨f_lkM, fun j _ => rfl, rfl, fun t k _ _ => rfl, rfl⟩, ⟨⟨⟨f_wA, f_whl, ?_, fun k hk => ?_, fun k hk => ?_⟩, ⟨?_, Nat.le_refl _⟩, fun p _ => ⟨fun z => (by cases z), rfl, rfl⟩, fun p hb => (by cases hb), (by show 2 * 0 + 3 ≤ 3 * 1; decide)⟩, ⟨⟨fun p => Nat.le_refl _, fun p x hx => (by cases hx)⟩, hTR⟩, fun m hm _ => ?_, fun j hj => ?_, by decide⟩, ?_, by decide, by decide, by decide, by decide⟩
  · intro k j h1 h2
    have h2 : k ≤ 0 := h2
    omega
  · have hk : k < 0 := hk
    omega
  · have hk : k < 0 := hk
    omega
  · intro k h1 h2
    have h2 : k ≤ 0 := h2
    omega
  · have hm : m ≤ 0 := hm
    have : m = 0 := by omega
    rw [this]
    exact hTl
  · have hj : j < 0 := hj
    omega
  · exact ⟨fun _ => Nat.le_refl _, fun t _ z => absurd rfl z, fun t t' _ _ z => absurd rfl z, fun _ _ => Nat.zero_le _, fun _ _ _ _ _ _ _ _ => rfl, fun t k _ _ z => absurd rfl z, ⟨fun k _ s hs => ⟨fun z => by have z : 0 = s := z; omega, fun z => by cases z.1⟩, fun k => Nat.le_refl _⟩, fun _ _ _ _ _ => rfl⟩
