/-! The fresh world, and the law's start. -/
def cS0 : zS := fun f _ j => bif Nat.beq f 4 then 1 else bif Nat.beq f 709 then -1 else bif Nat.beq f 1038 then 1 else bif Nat.beq f 1920 then cmf 48 j else 0
def cad (l0 : List Nat) (hd : Nat) (adp : zA) : zA := fun k i => bif Nat.ble 11 k && Nat.ble k 14 then adp k i else bif Nat.beq k 8 then hd + 1 + i else l0.getD k 0
def cLB : List (Nat × Nat) := [(0, 0), (1, 0), (2, 0), (4, 0), (5, 0), (6, 0), (7, 0), (8, 0), (8, 1), (8, 2), (8, 3), (9, 0), (10, 0), (15, 0)]
def cLP : List (Nat × Nat) := (List.range 40).flatMap fun i => [(11, i), (12, i), (13, i), (14, i)]
def cLM : List (Nat × Nat) := (List.range 19).map fun k => (16 + k, 0)
def cLA : List (Nat × Nat) := (cLB ++ cLP) ++ cLM
theorem cLA_ok : ∀ p ∈ cLA, zok 0 p.1 p.2 = true := List.all_eq_true.mp (show cLA.all (fun p => zok 0 p.1 p.2) = true by decide +kernel)
theorem cLA_chk : ((List.range 35).all fun k => (List.range 40).all fun i => !zok 0 k i || cLA.contains (k, i)) = true := by decide +kernel
theorem zcnt_le (k : Nat) : zcnt k ≤ 40 := by
  unfold zcnt
  cases Nat.beq k 8 <;> cases (Nat.ble 11 k && Nat.ble k 14) <;> cases Nat.ble 35 k <;> decide
theorem cLA_in (k i : Nat) (h : zok 0 k i = true) : (k, i) ∈ cLA := by
  have hk := zok_lt h
  have hi : i < 40 := by
    unfold zok at h
    split at h
    · simp only [decide_eq_true_eq] at h
      omega
    · simp only [decide_eq_true_eq] at h
      have := zcnt_le k
      omega
  have h1 := List.all_eq_true.mp (List.all_eq_true.mp cLA_chk k (List.mem_range.mpr hk)) i (List.mem_range.mpr hi)
  rw [h] at h1
  simpa using h1
theorem zrefs_30 (ad : zA) : zrefs ad 0 3 = fun _ => none := by
  funext j
  unfold zrefs zel
  have : zok 0 3 j = false := by
    unfold zok
    rw [if_pos rfl]
    exact decide_eq_false (by omega)
  rw [this]
  rfl
theorem zrefs_n (ad : zA) (q n : Nat) (hq : q ≠ 3) (hn : zcnt q = n) : zrefs ad 0 q = fun j => if j < n then some (ad q j) else none := by
  funext j
  unfold zrefs zel zok
  rw [if_neg hq, hn]
  by_cases hj : j < n
  · rw [if_pos hj, if_pos (decide_eq_true hj)]
    rfl
  · rw [if_neg hj, if_neg (by simp [hj])]
    rfl
set_option maxRecDepth 100000 in
theorem czl (ty : Nat → ClassId) (X lg rw po od lk hd lo pg sr M q8 q17 q26 q35 q44 q53 q62 q71 q80 q89 q102 q110 q118 q126 q134 q142 q149 q158 : Nat) (adp : zA) : zl ty (cad [X, lg, rw, 0, po, od, lk, hd, 0, lo, pg, 0, 0, 0, 0, sr, M, q8, q17, q26, q35, q44, q53, q62, q71, q80, q89, q102, q110, q118, q126, q134, q142, q149, q158] hd adp) (cS0, 0) cLA = (cbase ty X lg rw po od lk hd lo pg sr (cpf adp 40) ++ cpl ty adp 40) ++ cmod ty M q8 q17 q26 q35 q44 q53 q62 q71 q80 q89 q102 q110 q118 q126 q134 q142 q149 q158 (cmf 48) := by
  have e2 : zenc ty (cad [X, lg, rw, 0, po, od, lk, hd, 0, lo, pg, 0, 0, 0, 0, sr, M, q8, q17, q26, q35, q44, q53, q62, q71, q80, q89, q102, q110, q118, q126, q134, q142, q149, q158] hd adp) (cS0, 0) 2 0 = .inl (ty 4, 1145, .inr (.inr (.inr (.inr (fun _ => none))))) := by
    rw [zenc_a (show zkind 2 = .inr (4, 7, 1145) from rfl)]
    show Sum.inl (ty 4, 1145, Sum.inr (Sum.inr (Sum.inr (Sum.inr (zrefs _ 0 3))))) = _
    rw [zrefs_30]
  have e7 : zenc ty (cad [X, lg, rw, 0, po, od, lk, hd, 0, lo, pg, 0, 0, 0, 0, sr, M, q8, q17, q26, q35, q44, q53, q62, q71, q80, q89, q102, q110, q118, q126, q134, q142, q149, q158] hd adp) (cS0, 0) 7 0 = .inl (ty 6, 4, .inr (.inr (.inr (.inr (fun j => if j < 4 then some (hd + 1 + j) else none))))) := by
    rw [zenc_a (show zkind 7 = .inr (6, 12, 4) from rfl)]
    show Sum.inl (ty 6, 4, Sum.inr (Sum.inr (Sum.inr (Sum.inr (zrefs _ 0 8))))) = _
    rw [zrefs_n _ 8 4 (by decide) rfl]
    rfl
  have e10 : zenc ty (cad [X, lg, rw, 0, po, od, lk, hd, 0, lo, pg, 0, 0, 0, 0, sr, M, q8, q17, q26, q35, q44, q53, q62, q71, q80, q89, q102, q110, q118, q126, q134, q142, q149, q158] hd adp) (cS0, 0) 10 0 = .inl (ty 5, 40, .inr (.inr (.inr (.inr (cpf adp 40))))) := by
    rw [zenc_a (show zkind 10 = .inr (5, 15, 40) from rfl)]
    show Sum.inl (ty 5, 40, Sum.inr (Sum.inr (Sum.inr (Sum.inr (zrefs _ 0 11))))) = _
    rw [zrefs_n _ 11 40 (by decide) rfl]
    rfl
  unfold zl cLA
  rw [List.map_append, List.map_append]
  congr 1
  · congr 1
    · unfold cLB
      simp only [List.map_cons, List.map_nil]
      rw [e2, e7, e10]
      rfl
section ST
variable {p : Program} {l : Launch} {e : Env} {s : State} {m : MethodId} {below : List Frame} {meth : Method} {c : Code} {b L : Nat} {xs : Nat → Int32}
-- classes and array classes as the tables have them
theorem cknow {args : Array Value} (hts : ∀ w ∈ lw_tbl, w.before args s = true) : ∃ (D : va_G) (ty : Nat → ClassId), cK D ty s := by
  have hat : ∀ w ∈ zWS, w.before args s = true := fun w hw => hts w (List.mem_filter.mp hw).1
  have h1 : ∀ k : Nat, ∃ x : ClassId × (Nat → Nat), ∀ q, zcl[k]? = some q → u_Kn s q.1 q.2.1 q.2.2 x.1 x.2 := by
    intro k
    cases hq : zcl[k]? with
    | none => exact ⟨(0, fun _ => 0), fun q h => by cases h⟩
    | some q =>
      have hi : ∃ n, Cond.instantiable q.1 n ∈ zWS := by
        have hk : k < 8 := (List.getElem?_eq_some_iff.mp hq).1
        have hk : k = 0 ∨ k = 1 ∨ k = 2 ∨ k = 3 ∨ k = 4 ∨ k = 5 ∨ k = 6 ∨ k = 7 := by omega
        rcases hk with rfl | rfl | rfl | rfl | rfl | rfl | rfl | rfl <;> cases hq
        · exact ⟨_, wn0.2⟩
        · exact ⟨_, wn1.2⟩
        · exact ⟨_, zrow_ok.2.1⟩
        · exact ⟨_, wn3.2⟩
        · exact ⟨_, wn4.2⟩
        · exact ⟨_, wn5.2⟩
        · exact ⟨_, wn6.2⟩
        · exact ⟨_, wn7.2⟩
      obtain ⟨n, hi⟩ := hi
      obtain ⟨cC, iS, h⟩ := u_known hat (zcl_in hq) (hat _ hi)
      exact ⟨(cC, iS), fun q' h' => by cases h'; exact h⟩
  have pr : ∀ ft : FieldType, (∀ cA, va_RA s cA ft ↔ s.vm.findClass ("[" ++ ft.toString) = some cA) → Cond.arrayClass ft ∈ zWS → ∃ cA, ArrOfT s cA ft ∧ va_RA s cA ft := by
    intro ft hf hw
    obtain ⟨cA, kA, comp, a1, a2, a3⟩ := Cond.arrayClass_spec (hat _ hw)
    exact ⟨cA, fun n z => ⟨fun k h => (by cases h), kA, a2, comp, a3⟩, (hf cA).mpr a1⟩
  have ob : ∀ C : String, va_AO C s → ∃ cA, ArrOfT s cA (.object C) ∧ va_RA s cA (.object C) := by
    intro C h
    obtain ⟨comp, cA, kA, f1, f2, f3, f4, f5⟩ := Cond.arrayOver_spec h
    exact ⟨cA, fun n z => ⟨fun k h => (by cases h), kA, f3, comp, f4⟩, kA, comp, f3, f4, f1, f5⟩
  have ho4 : va_AO "PageKeeper$LogRow" s := va_AO.of (hts _ (by decide +kernel))
  have ho5 : va_AO "PageKeeper$Page" s := va_AO.of (hts _ (by decide +kernel))
  have ho6 : (Cond.arrayOver (.array .int)).before #[] s = true := cAI (Vm.Alike.refl _) (hts (.arrayOver (.array .int)) (by decide +kernel))
  obtain ⟨t0, h00, h01⟩ := pr .int (fun _ => Iff.rfl) (zhas_mem (by decide +kernel))
  obtain ⟨t1, h10, h11⟩ := pr .byte (fun _ => Iff.rfl) (zhas_mem (by decide +kernel))
  obtain ⟨t2, h20, h21⟩ := pr .short (fun _ => Iff.rfl) (zhas_mem (by decide +kernel))
  obtain ⟨t3, h30, h31⟩ := pr .boolean (fun _ => Iff.rfl) (zhas_mem (by decide +kernel))
  obtain ⟨t4, h40, h41⟩ := ob _ ho4
  obtain ⟨t5, h50, h51⟩ := ob _ ho5
  obtain ⟨t6, h60, h61⟩ : ∃ cA, ArrOfT s cA (.array .int) ∧ va_RA s cA (.array .int) := by
    obtain ⟨comp, cA, kA, f1, f2, f3, f4, f5⟩ := Jvm.Stand.arrayOver_specB (args := #[]) (first := s) (o := none) (idx := []) ho6
    exact ⟨cA, fun n z => ⟨fun k h => (by cases h), kA, f3, comp, f4⟩, f5⟩
  refine ⟨(fun k => (h1 k).choose.1, fun k => (h1 k).choose.2), fun i => match i with | 0 => t0 | 1 => t1 | 2 => t2 | 3 => t3 | 4 => t4 | 5 => t5 | _ => t6, ⟨fun k q hq => (h1 k).choose_spec q hq, fun k q hq => ?_⟩, fun w hw => ?_, ho4, ho5, ho6⟩
  · have hk : k < 7 := (List.getElem?_eq_some_iff.mp hq).1
    have hk : k = 0 ∨ k = 1 ∨ k = 2 ∨ k = 3 ∨ k = 4 ∨ k = 5 ∨ k = 6 := by omega
    rcases hk with rfl | rfl | rfl | rfl | rfl | rfl | rfl <;> cases hq
    · exact ⟨h00, h01⟩
    · exact ⟨h10, h11⟩
    · exact ⟨h20, h21⟩
    · exact ⟨h30, h31⟩
    · exact ⟨h40, h41⟩
    · exact ⟨h50, h51⟩
    · exact ⟨h60, h61⟩
  · have hm : w ∈ lw_tbl := by
      simp only [cNs, List.mem_cons, List.not_mem_nil, or_false] at hw
      rcases hw with rfl | rfl | rfl | rfl | rfl <;> decide +kernel
    have h := hts w hm
    simp only [cNs, List.mem_cons, List.not_mem_nil, or_false] at hw
    rcases hw with rfl | rfl | rfl | rfl | rfl <;> exact va_Nw.of rfl h
theorem czTh {args : Array Value} (hts : ∀ w ∈ lw_tbl, w.before args s = true) (hgv : (Jvm.Cond.and given_1 narrow_1).before args s = true) : zTh s ∧ lNn s := by
  have hs := flat_of_before _ hgv
  refine ⟨⟨va_Nw.of rfl (hts _ (by decide +kernel)), fun w hw => ?_⟩, fun w hw => ?_⟩
  · have hk : ∀ a, w.before a s = true → w.before #[] s = true := fun a h => zkeepW hw (u := s) (U := s) rfl (fun _ _ h _ => h) h
    simp only [zthW, List.mem_cons, List.not_mem_nil, or_false] at hw
    rcases hw with rfl | rfl | rfl | rfl
    · exact hk _ (hts _ (by decide +kernel))
    · exact hk _ (hts _ (by decide +kernel))
    · exact hk _ (hs _ (by decide +kernel))
    · exact hk _ (hs _ (by decide +kernel))
  · simp only [lNo, List.mem_cons, List.not_mem_nil, or_false] at hw
    rcases hw with rfl | rfl | rfl <;> exact lno_moved (Vm.Alike.refl _) (hs _ (by decide +kernel))
theorem cflags (hfl : l.flags = flags0) : ∀ e, l.admits e → e.platform.stackTraces = false := by
  intro e he
  rw [he.platform]
  show l.stackTraces = false
  unfold Launch.stackTraces
  rw [hfl]
  decide +kernel
theorem cnl {D : va_G} {ty : Nat → ClassId} {A : Nat → Prop} {own : String} {cc : ByteArray} {nL : Nat} {Q : State → Prop} {H : Heap} {locs : List Loc} {cells slots pc : Nat} {ls : Array Slot} {rest : List Value} {R : Room} {args : Array Value} {ws : va_W} (C : cCx p s m args c D ty A own cc nL) (h : cSt D A s ws H locs) (harr : Cond.arrayClass .long ∈ zWS) (hcells : cells + 1 ≤ R.cells) (hslots : slots + 1 ≤ R.slots) (hdg : decode cc pc = .ok (.newarray .long, 2))
    (kk : ∀ (q : Nat) (cA : ClassId) (H1 : Heap), va_K D zcl (ztys ty ++ [(cA, .long)]) s → cSt D A s (ws ++ [(q, .inl (cA, 1, .inr (.inl (fun _ => 0))))]) H1 locs → W p l e R s m args below meth c H1 locs (cells + 1) (slots + 1) Q (F0 m (pc + 2) ls (.ref q :: rest))) : W p l e R s m args below meth c H locs cells slots Q (F0 m pc ls (.int 1 :: rest)) :=
  va_newa (atype := .long) (a0 := (1, .inr (.inl (fun _ => 0)))) (N' := 1) (ty := .long) C.1.1 C.1.2.1 (C.2.1.2 _ harr) rfl C.2.2.1.1 h.1 h.2.1 h.2.2 C.2.2.2 (fun cA => rfl) (by decide) (by decide) (by decide) hcells hslots hdg fun q cA H1 hK hP hD hS => kk q cA H1 hK ⟨hP, hD, hS⟩
theorem cstart2 {Inv : Nat → zT → Prop} {K : Nat} {D : va_G} {ty : Nat → ClassId} {cL : ClassId} {oa X M : Nat} {ad : zA} {H : Heap} {locs : List Loc} {ls : Array Slot} (htr : ∀ e, l.admits e → e.platform.stackTraces = false) (hL : L ≤ 2048) (hLK : L < 4 * K + 4) (hK5 : K ≤ 512) (hstep : ∀ n t, n < K → Inv n t → ∀ (op : Nat) (a1 a2 a3 : Int32), op < 16 → ∃ t2, lOp op a1 a2 a3 t t2 ∧ Inv (n + 1) t2) (hmade : ∀ n t, Inv n t → t.2 ≤ 1144) (hI0 : Inv 0 (cS0, 0)) (At : lw_At p s m meth c b L xs)
    (hK : cK D ty s) (hTh : zTh s) (hNn : lNn s) (hK2 : va_K D zcl (ztys ty ++ [(cL, .long)]) s) (hX0 : ad 0 0 = X) (hM0 : ad 16 0 = M) (hP : va_P D zcl (zl ty ad (cS0, 0) cLA ++ [(oa, .inl (cL, 1, .inr (.inl (fun _ => 0))))]) H) (hD : va_D (fun q => s.heap.size ≤ q) (zl ty ad (cS0, 0) cLA ++ [(oa, .inl (cL, 1, .inr (.inl (fun _ => 0))))])) (hS : va_S (fun q => s.heap.size ≤ q) s.heap H locs) (hl : lv_has ls 7 [(4, .int (nI (4 * 0))), (3, .ref oa), (2, .ref M), (1, .ref X), (0, .ref b)]) :
    W p l e room_1 s m #[Value.ref b] below meth c H locs 194 15240 (lw_Z below #[Value.ref b] s) (F0 m 23 ls []) := by
  obtain ⟨hx, hb, hr, hml, hown, hts, hX, hbl, hlocks, hgv⟩ := At
  have hat : ∀ w ∈ zWS, w.before #[Value.ref b] s = true := fun w hw => hts w (List.mem_filter.mp hw).1
  have hlen : (zl ty ad (cS0, 0) cLA ++ [(oa, .inl (cL, 1, .inr (.inl (fun _ => 0))))])[(zl ty ad (cS0, 0) cLA).length]? = some (oa, .inl (cL, 1, .inr (.inl (fun _ => 0)))) := by
    rw [List.getElem?_append_right (Nat.le_refl _), Nat.sub_self]
    rfl
  have hin : ∀ (k : Nat) (x : Nat × va_E), (zl ty ad (cS0, 0) cLA)[k]? = some x → (zl ty ad (cS0, 0) cLA ++ [(oa, .inl (cL, 1, .inr (.inl (fun _ => 0))))])[k]? = some x := fun k x hx => by
    rw [List.getElem?_append_left (List.getElem?_eq_some_iff.mp hx).1]
    exact hx
  have hmem : ∀ k i, zok 0 k i = true → ∃ q0 : Nat, (zl ty ad (cS0, 0) cLA)[q0]? = some (ad k i, zenc ty ad (cS0, 0) k i) := fun k i hk => by
    obtain ⟨q0, hq⟩ := List.getElem?_of_mem (cLA_in k i hk)
    exact ⟨q0, zl_get hq⟩
  have hW : zW D ty ad (cS0, 0) H := ⟨cLA, cLA_in, cLA_ok, fun k x hx => hP k x (hin k x hx), fun i j x y hi hj => hD.1 i j x y (hin i x hi) (hin j y hj), fun _ _ _ => trivial⟩
  have hlW : lWd D ty (fun q => s.heap.size ≤ q) s ad (cS0, 0) H locs := ⟨hW, fun k i hk => by
    obtain ⟨q0, hq⟩ := hmem k i hk
    exact hD.2 q0 _ (hin _ _ hq), hS⟩
  have hlS : lSt D ty (fun q => s.heap.size ≤ q) s cL oa X M ad (cS0, 0) H locs (fun _ => 0) := by
    refine ⟨hlW, fun k x hx => ?_, fun k i hk he => ?_, hX0, hM0⟩
    · have hz : k < 1 := (List.getElem?_eq_some_iff.mp hx).1
      rw [show k = 0 by omega] at hx
      exact hP _ x (hlen.trans hx)
    · obtain ⟨q0, hq⟩ := hmem k i hk
      have h1 := hD.1 q0 _ _ _ (hin _ _ hq) hlen he
      have h2 := (List.getElem?_eq_some_iff.mp hq).1
      omega
  have hKL : va_K D zcl [(cL, .long)] s := ⟨hK.1.1, fun k q hq => by
    have hz : k < 1 := (List.getElem?_eq_some_iff.mp hq).1
    rw [show k = 0 by omega] at hq
    cases hq
    exact hK2.2 7 _ rfl⟩
  have hAok : zAok (fun q => s.heap.size ≤ q) s := ⟨fun q hq => hq, fun q cell hq _ => by
    have := (Array.getElem?_eq_some_iff.mp hq).1
    omega⟩
  have hoa : s.heap.size ≤ oa := hD.2 _ _ hlen
  refine W.widen (k := 194 + 0 + 0) (n := 15240 + 16 * 0 + 6 * 0) (by decide) (by decide) ?_
  exact lloop (K := K) (c0 := 194) (s0 := 15240) hstep hmade hLK hL hK5 (by decide) (by decide) ⟨⟨hx, hb, hml⟩, ⟨hown, hat, hK.1⟩, hTh, hAok, htr⟩ hr hlocks hNn hKL hoa hX hbl L 0 (cS0, 0) ad H locs (fun _ => 0) ls (by omega) (Nat.zero_le _) hI0 hlS (lv_sub hl [4, 3, 2, 1, 0] rfl)

set_option maxRecDepth 100000 in
theorem cstart {Inv : Nat → zT → Prop} {K : Nat} (hfl : l.flags = flags0) (hL : L ≤ 2048) (hLK : L < 4 * K + 4) (hK5 : K ≤ 512) (hstep : ∀ n t, n < K → Inv n t → ∀ (op : Nat) (a1 a2 a3 : Int32), op < 16 → ∃ t2, lOp op a1 a2 a3 t t2 ∧ Inv (n + 1) t2) (hmade : ∀ n t, Inv n t → t.2 ≤ 1144) (hI0 : Inv 0 (cS0, 0)) (At : lw_At p s m meth c b L xs) :
    W p l e room_1 s m #[Value.ref b] below meth c s.heap [] 0 0 (lw_Z below #[Value.ref b] s) (entryFrame m ([Value.ref b] : List Value).toArray 7) := by
  obtain ⟨hx, hb, hr, hml, hown, hts, hX, hbl, hlocks, hgv⟩ := id At
  have hat : ∀ w ∈ zWS, w.before #[Value.ref b] s = true := fun w hw => hts w (List.mem_filter.mp hw).1
  obtain ⟨D, ty, hK⟩ := cknow hts
  obtain ⟨hTh, hNn⟩ := czTh hts hgv
  have htr := cflags hfl
  have C : cCx p s m #[Value.ref b] c D ty (fun q => s.heap.size ≤ q) "PageKeeperLaw" code 7 := ⟨⟨hx, hb, hml⟩, ⟨hown, hat⟩, hK, fun q hq => hq⟩
  have h : cSt D (fun q => s.heap.size ≤ q) s [] s.heap [] := ⟨fun k q h => (by cases h), ⟨fun i j p q h => (by cases h), fun k q h => (by cases h)⟩, va_S.rf⟩
  have hl := lv_entry ([.ref b]) (n := 7) (Nat.le_of_ble_eq_true rfl)
  rw [lg_entry_eq]
  generalize (lg_sl ([.ref b]) ++ List.replicate (7 - (lg_sl ([.ref b])).length) Slot.unset).toArray = ls at hl ⊢
  have hl : lv_has ls 7 [(0, .ref b)] := hl
  refine cnew (host := "PageKeeper") (ty0 := zty0) (fs := fk0) (rm := rk0) C h rfl ztyo0 vk0 (zhas_mem (by decide +kernel)) wn0.2 wn0.1 (fun q sz => kk0 l D ty q sz) wk0 wi0 rfl rfl (by decide +kernel) (by decide +kernel) (Or.inr (zhas_mem (by decide +kernel))) rfl rfl (by decide) (by decide) hl.1 (by decide) ld_0 ld_3 ld_4 (by decide) (by decide) fun X w1 H locs hB h => ?_
  obtain ⟨lg, rw, po, od, lk, hd, lo, pg, sr, adp, rfl⟩ := hB
  rw [List.nil_append] at h
  refine lv_astore_n (i := 1) hx hb ld_7 rfl hl (by decide) rfl fun ls hl => ?_
  have hl : lv_has ls 7 [(1, .ref X), (0, .ref b)] := hl
  refine cnew (host := "PageKeeper") (ty0 := zty7) (fs := fk7) (rm := rk7) C h rfl ztyo7 vk7 (zhas_mem (by decide +kernel)) wn7.2 wn7.1 (fun q sz => kk7 l D ty q sz) wk7 wi7 rfl rfl (by decide +kernel) (by decide +kernel) (Or.inr (zhas_mem (by decide +kernel))) rfl rfl (by decide) (by decide) hl.1 (by decide) ld_8 ld_11 ld_12 (by decide) (by decide) fun M w1 H locs hB h => ?_
  obtain ⟨q8, q17, q26, q35, q44, q53, q62, q71, q80, q89, q102, q110, q118, q126, q134, q142, q149, q158, rfl⟩ := hB
  refine lv_astore_n (i := 2) hx hb ld_15 rfl hl (by decide) rfl fun ls hl => ?_
  have hl : lv_has ls 7 [(2, .ref M), (1, .ref X), (0, .ref b)] := hl
  refine lv_iconst (v := 1) hx hb ld_16 (by decide) ?_
  refine cnl C h (zhas_mem (by decide +kernel)) (by decide) (by decide) ld_17 fun oa cL H hK2 h => ?_
  obtain ⟨hP, hD, hS⟩ := h
  refine lv_astore_n (i := 3) hx hb ld_19 rfl hl (by decide) rfl fun ls hl => ?_
  have hl : lv_has ls 7 [(3, .ref oa), (2, .ref M), (1, .ref X), (0, .ref b)] := hl
  refine lv_iconst (v := 0) hx hb ld_20 (by decide) ?_
  refine lv_istore (i := 4) hx hb ld_21 hl (by decide) rfl fun ls hl => ?_
  have hl : lv_has ls 7 [(4, .int (nI (4 * 0))), (3, .ref oa), (2, .ref M), (1, .ref X), (0, .ref b)] := hl
  rw [← czl] at hP hD
  exact cstart2 htr hL hLK hK5 hstep hmade hI0 At hK hTh hNn hK2 rfl rfl hP hD hS hl
end ST
