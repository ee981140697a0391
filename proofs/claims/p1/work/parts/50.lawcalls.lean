/-! Calls of the small machine's methods out of the law and its helpers. -/
def lCx (p : Program) (l : Launch) (s : State) (m0 : MethodId) (args : Array Value) (c : Code) (D : va_G) (ty : Nat → ClassId) (A : Nat → Prop) (cc : ByteArray) (nL : Nat) : Prop :=
  (p.tables.exec = Jvm.exec ∧ c.code = cc ∧ c.maxLocals = nL) ∧ (s.vm.findClass "PageKeeperLaw" = some m0.cls ∧ (∀ w ∈ zWS, w.before args s = true) ∧ va_K D zcl (ztys ty) s) ∧ zTh s ∧ zAok A s ∧ (∀ e, l.admits e → e.platform.stackTraces = false)
def lWd (D : va_G) (ty : Nat → ClassId) (A : Nat → Prop) (s : State) (ad : zA) (t : zT) (H : Heap) (locs : List Loc) : Prop := zW D ty ad t H ∧ (∀ k i, zok t.2 k i = true → A (ad k i)) ∧ va_S A s.heap H locs
section LC
variable {p : Program} {l : Launch} {e : Env} {R : Room} {s : State} {m0 : MethodId} {args : Array Value} {below : List Frame} {meth : Method} {c : Code} {D : va_G} {ty : Nat → ClassId} {A : Nat → Prop} {cc : ByteArray} {nL : Nat} {Q : State → Prop}
theorem lWd.sub {ad : zA} {t : zT} {H : Heap} {locs : List Loc} (C : lCx p l s m0 args c D ty A cc nL) (h : lWd D ty A s ad t H locs) {q : Nat} (hq : zAr ad t.2 H.size q) : A q := by
  rcases hq with ⟨k, i, h1, h2⟩ | hq
  · rw [h2]
    exact h.2.1 k i h1
  · exact C.2.2.2.1.1 q (Nat.le_trans h.2.2.1 hq)
theorem lPc_at {ad : zA} {t : zT} {H : Heap} {locs : List Loc} {as : List zV} (C : lCx p l s m0 args c D ty A cc nL) (h : lWd D ty A s ad t H locs) {U : State} (hU : U.heap = H) (hW : s.WarmedH U.vm) : zPc D ty ad t as H.size (as.map (zcv ad)).toArray U :=
  ⟨rfl, by rw [hU], by rw [hU]; exact h.1, C.2.1.2.2.moved hW.alike, C.2.2.1.moved hW fun q cell hq hst => by
    rw [hU, h.2.2.2.1 q (Array.getElem?_eq_some_iff.mp hq).1 (C.2.2.2.1.2 q cell hq hst)]
    exact hq⟩
theorem lCB {mc ms n m' k : Nat} (C : lCx p l s m0 args c D ty A cc nL) (hm' : m' < 123) (hl : Cond.methodLink "PageKeeperLaw" n (zyy m') ∈ zWS) (hf : zFr m' + 1 ≤ R.frames) (hw : 8 + (zlocs m' + 11) + zLo m' ≤ R.locals) (hk : zpar (zyy m') = some k) : CallB R s args "PageKeeperLaw" n (zyy m') (zbb m') (zlocs m') (zrt m') (zws m') (zrm m' mc ms) mc ms k := by
  have h := zm_ok hm'
  have hall : ∀ w ∈ zws m', ∀ (a' : Array Value) (U : State), s.WarmedH U.vm → w.before a' U = true := by
    intro w hw a' U hW
    rcases List.mem_cons.mp hw with rfl | hw
    · exact zword hW (zWS_good h.1) (C.2.1.2.1 _ h.1)
    · exact zword hW (zWS_good hw) (C.2.1.2.1 _ hw)
  refine ⟨rfl, rfl, hf, hw, hall, List.mem_cons_self, C.2.1.2.1 _ h.1, C.2.1.2.1 _ h.2.1, h.2.2.2.2.1, fun sig hs => ?_, C.2.1.2.1 _ hl⟩
  unfold zpar at hk
  rw [hs] at hk
  exact (Option.some.inj hk).symm
theorem lrecv {ad : zA} {t : zT} {H : Heap} {locs : List Loc} {m' k0 i0 : Nat} (C : lCx p l s m0 args c D ty A cc nL) (h : lWd D ty A s ad t H locs) (hm' : m' < 123) (hrv : zcls k0 (zown m') = true) (hv : zok t.2 k0 i0 = true) : ∃ cell : Cell, H[ad k0 i0]? = some cell ∧ cell.vm.isStatics = false ∧ s.vm.findClass (zyy m').cls = some cell.cls := by
  obtain ⟨fs, hkind⟩ := zcls_ok hrv
  obtain ⟨L, hL⟩ := h.1
  obtain ⟨q0, hq⟩ := hL.pos hv
  obtain ⟨-, r, hr1, -⟩ := zkind_o hkind
  have hrec := va_recv (a := ad k0 i0) C.2.1.2.2 hL.2.2.1 hr1 (q0 := q0) (fs := zenF ad t.1 k0 i0 fs) (by rw [zl_get hq, zenc_o hkind])
  have hrn : r.1 = (zyy m').cls := by
    rw [(zm_ok hm').2.2.1]
    unfold zRn
    rw [List.getD_eq_getElem?_getD, hr1]
    rfl
  rw [hrn] at hrec
  exact hrec
theorem lS_at {ad : zA} {t : zT} {H H1 : Heap} {locs L : List Loc} (C : lCx p l s m0 args c D ty A cc nL) (h : lWd D ty A s ad t H locs) (h1 : H.size ≤ H1.size) (h2 : ∀ q, q < H.size → ¬ zAr ad t.2 H.size q → H1[q]? = H[q]?) (hL : ∀ q ∈ L, zAr ad t.2 H.size q.base) : va_S A s.heap H1 (locs ++ L) := by
  have hS := h.2.2
  refine ⟨Nat.le_trans hS.1 h1, fun q g1 g2 => ?_, fun q hq => ?_⟩
  · rw [h2 q (Nat.lt_of_lt_of_le g1 hS.1) (fun z => g2 (h.sub C z))]
    exact hS.2.1 q g1 g2
  · rcases List.mem_append.mp hq with hq | hq
    · exact hS.2.2 q hq
    · exact h.sub C (hL q hq)
-- a method that returns an int
theorem lcallV {ad : zA} {t t1 : zT} {H : Heap} {locs : List Loc} {cells slots N m' n k0 i0 pc : Nat} {as' : List zV} {x : Int32} {rest : List Value} {ls : Array Slot} (C : lCx p l s m0 args c D ty A cc nL) (h : lWd D ty A s ad t H locs)
    (hm' : m' < 123) (hl : Cond.methodLink "PageKeeperLaw" n (zyy m') ∈ zWS) (hst : zstat m' = false) (hrv : zcls k0 (zown m') = true) (hna : as'.length + 1 = znar m') (hv : zok t.2 k0 i0 = true) (has : ∀ v ∈ as', zvok t.2 v = true)
    (hz : zrun N m' (0, zent m' (.inr (some (k0, i0)) :: as'), [], t) = some (.inl (some (.inl x)), t1)) (hf : zFr m' + 1 ≤ R.frames) (hw : 8 + (zlocs m' + 11) + zLo m' ≤ R.locals) (hls : ls.size = nL) (hr : (rest.map fun v => v.category).sum ≤ 8)
    (hd : decode cc pc = .ok (.invokevirtual n, 3)) (hc : cells + (t1.2 - t.2) ≤ R.cells) (hs : slots + 16 * (t1.2 - t.2) ≤ R.slots)
    (kk : ∀ (ad' : zA) (H' : Heap) (locs' : List Loc), zExt ad ad' t.2 → lWd D ty A s ad' t1 H' locs' → (∀ k i, zok t1.2 k i = true → zAr ad t.2 H.size (ad' k i)) → (∀ q, q < H.size → ¬ zAr ad t.2 H.size q → H'[q]? = H[q]?) → W p l e R s m0 args below meth c H' locs' (cells + (t1.2 - t.2)) (slots + 16 * (t1.2 - t.2)) Q (F0 m0 (pc + 3) ls (.int x :: rest))) :
    W p l e R s m0 args below meth c H locs cells slots Q (F0 m0 pc ls ((as'.map (zcv ad)).reverse ++ .ref (ad k0 i0) :: rest)) := by
  have htr := C.2.2.2.2
  have hk := zm_ok hm'
  obtain ⟨kp, hkp⟩ := hk.2.2.2.2.2.1
  have hkp1 : kp + 1 = as'.length + 1 := by
    rw [hna]
    unfold znar
    rw [hst, hkp]
    rfl
  have hcal : zCal l D ty m' (.inr (some (k0, i0)) :: as') t (.inl (some (.inl x))) t1 := fun p e R s m0 args below meth c A C => zsound htr D ty N m' 0 _ [] t _ t1 hz p e R s m0 args below meth c A C
  have hr0 := va_runV (cc := cc) (nL := nL) (Ts := zWS) (own := "PageKeeperLaw") (C := (zyy m').cls) (b := ad k0 i0) (As := as'.map (zcv ad)) (rest := rest) (below := below) (meth := meth) (e := e) (locs := locs) (cells := cells) (slots := slots) (g := F0 m0 pc ls ((as'.map (zcv ad)).reverse ++ .ref (ad k0 i0) :: rest)) ⟨C.1.1, C.1.2.1, C.1.2.2, C.2.1.1, C.2.1.2.1⟩ (zmetR (sz := H.size) (ad := ad) htr hm' hcal (by rw [List.length_cons, hna]) (zall_c hv has) rfl rfl)
      ⟨lCB C hm' hl hf hw hkp, C.2.1.2.1 _ (hk.2.2.2.2.2.2.2.2.2 hst).1, C.2.1.2.1 _ (hk.2.2.2.2.2.2.2.2.2 hst).2⟩ ⟨zPc_blind _ _ _ _ _ _, lrecv C h hm' hrv hv, fun U hU hW => lPc_at (as := .inr (some (k0, i0)) :: as') C h hU hW⟩ rfl (by rw [List.length_map]; omega) hls rfl
      (by show 2 * 0 + (rest.map fun v => v.category).sum ≤ 8; omega) hd ⟨hc, hs⟩
  intro T hT X
  obtain ⟨w, st₀, u, T', L, h0, X', hL, e1, e2, ⟨⟨ad', hx, hres, hw', hA'⟩, hF⟩, go⟩ := hr0 T hT X
  obtain ⟨hr1, -⟩ := hres
  cases hr1
  have hkeep : ∀ q, q < H.size → ¬ zAr ad t.2 H.size q → T'.heap[q]? = H[q]? := fun q h1 h2 => by rw [e1, hF.2 q (by rw [h0]; exact h1) h2, h0]
  obtain ⟨u2, g1, g2⟩ := kk ad' T'.heap (locs ++ L) hx ⟨by rw [e1]; exact hw', fun k i hki => h.sub C (hA' k i hki), lS_at C h (by rw [e1, ← h0]; exact hF.1) hkeep hL⟩ hA' hkeep T' rfl X'
  exact ⟨u2, go u2 g1, g2⟩
-- a method that throws, caught here
theorem lthrV {ad : zA} {t t1 : zT} {H : Heap} {locs : List Loc} {cells slots N m' n k0 i0 pc x : Nat} {as' : List zV} {rest : List Value} {ls : Array Slot} {pre post : List ExceptionTableEntry} {row : ExceptionTableEntry} (C : lCx p l s m0 args c D ty A cc nL) (h : lWd D ty A s ad t H locs)
    (hm' : m' < 123) (hl : Cond.methodLink "PageKeeperLaw" n (zyy m') ∈ zWS) (hst : zstat m' = false) (hrv : zcls k0 (zown m') = true) (hna : as'.length + 1 = znar m') (hv : zok t.2 k0 i0 = true) (has : ∀ v ∈ as', zvok t.2 v = true)
    (hz : zrun N m' (0, zent m' (.inr (some (k0, i0)) :: as'), [], t) = some (.inr x, t1)) (hf : zFr m' + 1 ≤ R.frames) (hw : 8 + (zlocs m' + 11) + zLo m' ≤ R.locals) (hls : ls.size = nL) (hr : (rest.map fun v => v.category).sum ≤ 8)
    (hd : decode cc pc = .ok (.invokevirtual n, 3)) (hc : cells + (t1.2 - t.2 + 1) ≤ R.cells) (hs : slots + (16 * (t1.2 - t.2) + 6) ≤ R.slots)
    (hex : c.exceptionTable.toList = pre ++ row :: post) (hpass : ∀ y ∈ pre, y.catchType ≠ 0 ∧ ∃ nm, (Cond.classLink "PageKeeperLaw" y.catchType nm).before args s = true ∧ (Cond.not (.castable (zxn x) nm)).before args s = true)
    (hcov : covers row pc = true) (h0 : row.catchType ≠ 0) (hlink : (Cond.classLink "PageKeeperLaw" row.catchType (zxn x)).before args s = true) (hcast : (Cond.castable (zxn x) (zxn x)).before args s = true)
    (kk : ∀ (a : Nat) (ad' : zA) (H' : Heap) (locs' : List Loc), zExt ad ad' t.2 → lWd D ty A s ad' t1 H' locs' → (∀ k i, zok t1.2 k i = true → zAr ad t.2 H.size (ad' k i)) → (∀ q, q < H.size → ¬ zAr ad t.2 H.size q → H'[q]? = H[q]?) → W p l e R s m0 args below meth c H' locs' (cells + (t1.2 - t.2 + 1)) (slots + (16 * (t1.2 - t.2) + 6)) Q (F0 m0 row.handlerPc ls [.ref a])) :
    W p l e R s m0 args below meth c H locs cells slots Q (F0 m0 pc ls ((as'.map (zcv ad)).reverse ++ .ref (ad k0 i0) :: rest)) := by
  have htr := C.2.2.2.2
  have hk := zm_ok hm'
  obtain ⟨kp, hkp⟩ := hk.2.2.2.2.2.1
  have hkp1 : kp + 1 = as'.length + 1 := by
    rw [hna]
    unfold znar
    rw [hst, hkp]
    rfl
  have hcal : zCal l D ty m' (.inr (some (k0, i0)) :: as') t (.inr x) t1 := fun p e R s m0 args below meth c A C => zsound htr D ty N m' 0 _ [] t _ t1 hz p e R s m0 args below meth c A C
  obtain ⟨-, -, hRf, hRl, hws, -, hcode, hini, hy, hpar, hlinkM⟩ := lCB (mc := t1.2 - t.2 + 1) (ms := 16 * (t1.2 - t.2) + 6) C hm' hl hf hw hkp
  intro T hT X
  obtain ⟨cellB, hcell, hobj, hcls⟩ := lrecv C h hm' hrv hv
  obtain ⟨mk, methM, hnamed, hmethM, hstM, habM⟩ := Cond.instanceMethod_spec (C.2.1.2.1 _ (hk.2.2.2.2.2.2.2.2.2 hst).1)
  obtain ⟨methM', cM, hmethM', -, -, -, -, -, -, hsigM⟩ := Cond.code_spec hnamed hcode
  cases hmethM.symm.trans hmethM'
  obtain ⟨c2, r2, m2, q1, q2, q3, q4, kP, hkP, hkPi⟩ := Cond.selects_spec (C.2.1.2.1 _ (hk.2.2.2.2.2.2.2.2.2 hst).2)
  cases hcls.symm.trans q1
  cases (State.methodFound?_of_named hnamed hy).symm.trans q2
  cases hnamed.symm.trans q3
  have hselP : selectMethod e.platform s.vm cellB.cls mk = .method mk := by rw [Launch.admits_selectMethod X.admits]; exact q4
  obtain ⟨vm₁, X₁, hstep₁⟩ := X.invokevirtual C.1.1 C.2.1.1 hlinkM hnamed hmethM hstM hkP hkPi hy (a := ad k0 i0) (cell := cellB) (by rw [hT]; exact hcell) (fun z h => by rw [h] at hobj; cases hobj) hselP hmethM habM hkP hkPi (g := F0 m0 pc ls ((as'.map (zcv ad)).reverse ++ .ref (ad k0 i0) :: rest)) rfl (argsL := as'.map (zcv ad)) (rest := rest) (by rw [List.length_map, ← hpar _ hsigM]; omega) rfl (by rw [C.1.2.1]; exact hd)
  have hcw := hws _ List.mem_cons_self ((Sum.inr (some (k0, i0)) :: as' : List zV).map (zcv ad)).toArray (T.setVm vm₁) X₁.warmed
  obtain ⟨oc, s₂, hsteps, hend, ⟨a, rfl, hq⟩, L, hFE, hL⟩ := zcalled (g := { F0 m0 pc ls ((as'.map (zcv ad)).reverse ++ .ref (ad k0 i0) :: rest) with stack := rest }) (W0 := 8) (bytes := zbb m') (maxL := zlocs m') (ret := zrt m') X₁ (zmetT (sz := H.size) (ad := ad) htr hm' hcal (by rw [List.length_cons, hna]) (zall_c hv has) rfl rfl) hRf hRl (fun w hw => hws w hw _ _ X₁.warmed) hcw (hws _ (List.mem_cons_of_mem _ hk.2.1) _ _ X₁.warmed) hc hs
    (zPc_blind _ _ _ _ _ _ _ _ _ _ (lPc_at (as := Sum.inr (some (k0, i0)) :: as') C h (U := T.setVm vm₁) hT X₁.warmed)) rfl (by show ls.size = _; rw [hls, C.1.2.2]) (by rw [C.1.2.1]; exact hd) (by show 2 * 0 + (rest.map fun v => v.category).sum ≤ 8; omega) (X₁.named hnamed)
  obtain ⟨T', X', h1, h2, h3⟩ := X₁.outOfThrown (g := { F0 m0 pc ls ((as'.map (zcv ad)).reverse ++ .ref (ad k0 i0) :: rest) with stack := rest }) rfl hend hFE.1 hFE.2
  obtain ⟨⟨ad', hx, ⟨a', ce, r1, r2, r3, r4⟩, hw', hA'⟩, hF⟩ := hq
  cases r1
  have hheap : T'.heap = s₂.heap := by rw [h3]; exact (Stand.throwing_heap T' _ a).symm
  have hfx : s.vm.findClass (zxn x) = some ce.cls := by
    rw [← X₁.warmed.alike.findClass]
    exact r3
  obtain ⟨c3, cT, hc3, hcT, hasg⟩ := Cond.castable_spec hcast
  cases hfx.symm.trans hc3
  cases hcT.symm.trans hc3
  have hpl : e.platform.magicAccessors = ({} : Platform).magicAccessors := by rw [X.admits.platform]
  obtain ⟨hrow, hk0⟩ := X'.catches_of_link C.2.1.1 h0 hlink hc3 hasg
  obtain ⟨vm', XV, st⟩ := X'.thenCaughtThrough a (g := { F0 m0 pc ls ((as'.map (zcv ad)).reverse ++ .ref (ad k0 i0) :: rest) with stack := rest }) rfl (s₀ := s₂) (by rw [h3]; exact Steps.refl _) (cell := ce) (by rw [hheap]; exact r2) (by rw [r4]; rfl) hk0 pre row post hex
    (fun y hy => by
      obtain ⟨y0, nm, y1, y2⟩ := hpass y hy
      exact RowPassed.of_words hpl C.2.1.1 y0 y1 hfx y2) hcov hrow
  have hkeep : ∀ q, q < H.size → ¬ zAr ad t.2 H.size q → T'.heap[q]? = H[q]? := fun q g1 g2 => by
    have e0 : ((T.setVm vm₁).calling { F0 m0 pc ls ((as'.map (zcv ad)).reverse ++ .ref (ad k0 i0) :: rest) with stack := rest } mk ((Sum.inr (some (k0, i0)) :: as' : List zV).map (zcv ad)).toArray).heap = H := hT
    rw [hheap, hF.2 q (by rw [e0]; exact g1) g2, e0]
  have hsz : H.size ≤ T'.heap.size := by
    have e0 : ((T.setVm vm₁).calling { F0 m0 pc ls ((as'.map (zcv ad)).reverse ++ .ref (ad k0 i0) :: rest) with stack := rest } mk ((Sum.inr (some (k0, i0)) :: as' : List zV).map (zcv ad)).toArray).heap = H := hT
    rw [hheap, ← e0]
    exact hF.1
  obtain ⟨u2, g1, g2⟩ := kk a ad' T'.heap (locs ++ L) hx ⟨by rw [hheap]; exact hw', fun k i hki => h.sub C (hA' k i hki), lS_at C h hsz hkeep hL⟩ hA' hkeep (T'.setVm vm') rfl XV
  exact ⟨u2, hstep₁ _ (fun acts => by rw [doInvoke_state]; exact hsteps.trans (st.trans g1)), g2⟩
end LC
