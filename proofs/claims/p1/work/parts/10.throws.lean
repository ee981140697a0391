/-! Throws, and calls that throw. -/
section ZT
variable {p : Program} {l : Launch} {e : Env} {R : Room} {s : State} {m0 : MethodId} {args : Array Value} {below : List Frame} {meth : Method} {c : Code} {D : va_G} {ty : Nat → ClassId} {A : Nat → Prop} {m pc : Nat} {ls : List (Option zV)} {st : List zV} {t t' t1 : zT} {o : zO}
theorem zs_thr {n ic x : Nat} (C : zCx p l e R s m0 args meth c D ty A m) (hx : zxchk (zown m) n ic x = true) (hd0 : decode (zbb m) pc = .ok (.new n, 3)) (hd3 : decode (zbb m) (pc + 3) = .ok (.dup, 1)) (hd4 : decode (zbb m) (pc + 4) = .ok (.invokespecial ic, 3)) (hd7 : decode (zbb m) (pc + 7) = .ok (.athrow, 1))
    (hf : 6 ≤ zFr m) (hl : 85 ≤ zLo m) (hst : st.length ≤ 4) : zOK p l e R s m0 args below meth c D ty A m pc ls st t (.inr x) t := by
  intro ad H locs cells slots lsA h hc hs T hT X
  have hW : s.WarmedH (zbeg T m0 args below).vm := X.warmed
  unfold zxchk at hx
  simp only [Bool.and_eq_true] at hx
  obtain ⟨⟨⟨x1, x2⟩, x3⟩, x4⟩ := hx
  have hkeep : ∀ (q : Nat) (cell : Cell), s.heap[q]? = some cell → cell.vm.isStatics = true → (zbeg T m0 args below).heap[q]? = some cell := fun q cell hq hst => by
    show T.heap[q]? = _
    rw [hT, h.2.2.2.2.2.1 q (Array.getElem?_eq_some_iff.mp hq).1 (C.2.2.2.2 q cell hq hst)]
    exact hq
  have hat : ∀ w ∈ zWS, w.before args (zbeg T m0 args below) = true := fun w hw => zword hW (zWS_good hw) (C.2.1.2.1 w hw)
  have hw : ∀ a ∈ Bundle.ownAtoms0 (zRn (zown m)) ic (zxn x) zxs, a.before args (zbeg T m0 args below) = true := by
    intro a ha
    have h1 := List.all_eq_true.mp x4 a ha
    rw [Bool.or_eq_true, decide_eq_true_eq] at h1
    rcases h1 with h1 | h1
    · exact zthW_at h1 hW hkeep C.2.2.1.2.2.2.1
    · exact hat a (zhas_mem h1)
  have hfr := C.2.2.1.2.1
  have hlo := C.2.2.1.2.2.1
  have e1 : cells + (t.2 - t.2) + zth (.inr x) = cells + 1 := by simp [zth]
  have e2 : slots + 16 * (t.2 - t.2) + 6 * zth (.inr x) = slots + 6 := by simp [zth]
  rw [e1] at hc
  rw [e2] at hs
  obtain ⟨U, a, ce, g1, g2, g3, g4, g5, g6, g7, g8, g9, g10⟩ := zthrow X C.1.1 C.2.2.1.2.2.2.2 (own := zRn (zown m)) (cls := zxn x) (names := zxs) C.1.2.1 C.2.1.1 x3 (by decide +kernel) hw (hat _ (zhas_mem x1)) (hat _ (zhas_mem x2)) (pc := pc) (ls := lsA) (st := st.map (zcv ad)) (by rw [h.1.2.1, C.1.2.2.1]) hd0 hd3 hd4 hd7 C.2.2.1.1
    (by show 2 + 3 < R.frames; omega) (by rw [zsum]; show 1 + st.length + (13 * (2 + 1) + 41) ≤ R.locals; omega) hc hs C.1.2.2.2.2
  refine ⟨U, g1, .threw a, g2, g3, ⟨⟨ad, zExt.refl _ _, ⟨a, ce, rfl, g8, g9, g10⟩, zW_heap h.2.2.1 (fun q hq => by rw [g6 q (by rw [hT]; exact hq), hT]), h.2.2.2.1⟩, ?_, fun q h1 h2 => ?_⟩, locs, ?_, h.2.2.2.2.2.2⟩
  · have h3 := h.2.2.2.2.1
    have h4 := (Array.getElem?_eq_some_iff.mp g8).1
    rw [hT] at g7
    omega
  · rw [g6 q (by rw [hT]; exact Nat.lt_of_lt_of_le h1 h.2.2.2.2.1), hT]
    exact h.2.2.2.2.2.1 q h1 h2
  · rw [e1, e2]
    exact ⟨g4, g5⟩
-- behind a callee's throw
theorem zpassed {ad : zA} {H : Heap} {locs L : List Loc} {cells slots mc ms x a : Nat} {lsA : Array Slot} {st₀ u U : State} (C : zCx p l e R s m0 args meth c D ty A m) (h : zRp D ty A s ad m ls st t H locs lsA) (hmc : mc = t1.2 - t.2 + 1) (hms : ms = 16 * (t1.2 - t.2) + 6)
    (h0 : st₀.heap = H) (h1 : s.vm.Alike st₀.vm) (hrun : U.status = .running) (hend : Ended U below (.threw a)) (hW : s.WarmedH U.vm) (hsame : s.sameButNew ({ U with vm := s.vm } : State) (locs ++ L) (cells + mc) (slots + ms))
    (hq : zQ D ty (zAr ad t.2 H.size) ad t.2 (.inr x) t1 st₀ (.threw a) u) (hL : ∀ q ∈ L, zAr ad t.2 H.size q.base) (hU : U.heap = u.heap) : zEnd D ty A s below ad t.2 (.inr x) t1 (cells + (t1.2 - t.2) + zth (.inr x)) (slots + 16 * (t1.2 - t.2) + 6 * zth (.inr x)) U := by
  obtain ⟨⟨ad', hx, ⟨a', ce, q1, q2, q3, q4⟩, hw', hA'⟩, hF⟩ := hq
  cases q1
  have hsub : ∀ q, zAr ad t.2 H.size q → A q := fun q hq => zA_sub C h hq
  have hS := h.2.2.2.2
  refine ⟨.threw a, hrun, hend, ⟨⟨ad', hx, ⟨a, ce, rfl, by rw [hU]; exact q2, by rw [← h1.findClass]; exact q3, q4⟩, by rw [hU]; exact hw', fun k i hki => hsub _ (hA' k i hki)⟩, ?_, fun q h2 h3 => ?_⟩, locs ++ L, ?_, fun q hq => ?_⟩
  · rw [hU]
    exact Nat.le_trans hS.1 (by rw [← h0]; exact hF.1)
  · have hq : q < H.size := Nat.lt_of_lt_of_le h2 hS.1
    rw [hU, hF.2 q (by rw [h0]; exact hq) (fun z => h3 (hsub q z)), h0]
    exact hS.2.1 q h2 h3
  · rw [show cells + (t1.2 - t.2) + zth (.inr x) = cells + mc by rw [hmc]; simp only [zth]; omega, show slots + 16 * (t1.2 - t.2) + 6 * zth (.inr x) = slots + ms by rw [hms]; simp only [zth]; omega]
    exact ⟨hW, hsame⟩
  · rcases List.mem_append.mp hq with hq | hq
    · exact hS.2.2 q hq
    · exact hsub _ (hL q hq)
theorem zs_thrS {as rest : List zV} {n k m' x : Nat} (htr : ∀ e, l.admits e → e.platform.stackTraces = false) (C : zCx p l e R s m0 args meth c D ty A m) (ho : zown m < 8) (hz : zcal (zown m) n = some (m', k)) (h9 : m' ≠ 999) (hst : zstat m' = true) (hn : k ≤ st.length) (hn8 : st.length ≤ k + 8) (ha : as = (st.take k).reverse) (hr : rest = st.drop k)
    (hf : zFr m' + 1 ≤ zFr m) (hw : 8 + (zlocs m' + 11) + zLo m' ≤ zLo m) (hd : decode (zbb m) pc = .ok (.invokestatic n, 3)) (hcal : zCal l D ty m' as t (.inr x) t1) : zOK p l e R s m0 args below meth c D ty A m pc ls st t (.inr x) t1 := by
  intro ad H locs cells slots lsA h hc hs T hT X
  obtain ⟨hm', hl, hna⟩ := zcal_ok ho hz h9
  have hk := zm_ok hm'
  obtain ⟨k0, hk0⟩ := hk.2.2.2.2.2.1
  have hok : ∀ v ∈ as, zvok t.2 v = true := fun w hw => h.2.1 w (by rw [ha] at hw; exact List.mem_of_mem_take (List.mem_reverse.mp hw))
  have hlen : as.length = k := by rw [ha, List.length_reverse, List.length_take]; omega
  have hk1 : k0 = k := by
    unfold znar at hna
    rw [hst, hk0] at hna
    simpa using hna
  have e1 : cells + (t1.2 - t.2) + zth (.inr x) = cells + (t1.2 - t.2 + 1) := by simp only [zth]; omega
  have e2 : slots + 16 * (t1.2 - t.2) + 6 * zth (.inr x) = slots + (16 * (t1.2 - t.2) + 6) := by simp only [zth]; omega
  have hcb := zCB (mc := t1.2 - t.2 + 1) (ms := 16 * (t1.2 - t.2) + 6) C ho hm' hl hf hw hk0
  obtain ⟨-, -, hRf, hRl, hws, -, hcode, hini, hy, hpar, hlink⟩ := hcb
  have hsp := zsplit (ad := ad) hn ha hr
  obtain ⟨mk, hnamed⟩ := Cond.code_named hcode
  obtain ⟨methM, cM, hmethM, -, -, -, -, -, -, hsigM⟩ := Cond.code_spec hnamed hcode
  have hstatic : methM.isStatic = true := Cond.static_spec hnamed hmethM (C.2.1.2.1 _ (hk.2.2.2.2.2.2.2.2.1 hst))
  obtain ⟨kP, hkP, -⟩ := className_of_methodNamed hnamed
  have hinitP : kP.init = .initialized := Cond.initialized_spec (findClass_of_methodNamed hnamed) hkP hini
  obtain ⟨vm₁, X₁, hstep₁⟩ := X.invokestatic C.1.1 C.2.1.1 hlink hnamed hmethM hstatic hkP hinitP hy (g := F0 m0 pc lsA (st.map (zcv ad))) rfl (argsL := as.map (zcv ad)) (rest := rest.map (zcv ad)) (by rw [List.length_map, hlen, ← hk1]; exact hpar _ hsigM) hsp (by rw [C.1.2.1]; exact hd)
  have hcw := hws _ List.mem_cons_self (as.map (zcv ad)).toArray (T.setVm vm₁) X₁.warmed
  obtain ⟨a, u, U, L, g1, g2, g3, g4, g5, g6, g7, g8, g9⟩ := zpass (g := { F0 m0 pc lsA (st.map (zcv ad)) with stack := rest.map (zcv ad) }) (W0 := 8) (bytes := zbb m') (maxL := zlocs m') (ret := zrt m') X₁ (zmetT (sz := H.size) (ad := ad) htr hm' hcal (by rw [hlen, hna]) hok rfl rfl) hRf hRl (fun w hw => hws w hw _ _ X₁.warmed) hcw (hws _ (List.mem_cons_of_mem _ hk.2.1) _ _ X₁.warmed) (by rw [e1] at hc; exact hc) (by rw [e2] at hs; exact hs)
    (zPc_blind _ _ _ _ _ _ _ _ _ _ (zPc_at (as := as) C h (U := T.setVm vm₁) hT X₁.warmed)) rfl (by show lsA.size = _; rw [h.1.2.1, C.1.2.2.1]) (by rw [C.1.2.1]; exact hd) (by show 2 * 0 + _ ≤ 8; rw [zsum, hr, List.length_drop]; omega) (X₁.named hnamed) rfl rfl C.2.2.1.1 C.1.2.2.2.2
  exact ⟨U, hstep₁ U (fun acts => by rw [doInvoke_state]; exact g1), zpassed (st₀ := (T.setVm vm₁).calling { F0 m0 pc lsA (st.map (zcv ad)) with stack := rest.map (zcv ad) } mk (as.map (zcv ad)).toArray) C h rfl rfl hT X₁.warmed.alike g2 g3 g4 g5 g6 g7 g8⟩
theorem zs_thrV {as rest : List zV} {n k m' x : Nat} (htr : ∀ e, l.admits e → e.platform.stackTraces = false) (C : zCx p l e R s m0 args meth c D ty A m) (ho : zown m < 8) (hz : zcal (zown m) n = some (m', k)) (h9 : m' ≠ 999) (hst : zstat m' = false) (hrv : zrecv m' as = true) (hn : k ≤ st.length) (hn8 : st.length ≤ k + 8) (ha : as = (st.take k).reverse) (hr : rest = st.drop k)
    (hf : zFr m' + 1 ≤ zFr m) (hw : 8 + (zlocs m' + 11) + zLo m' ≤ zLo m) (hd : decode (zbb m) pc = .ok (.invokevirtual n, 3)) (hcal : zCal l D ty m' as t (.inr x) t1) : zOK p l e R s m0 args below meth c D ty A m pc ls st t (.inr x) t1 := by
  intro ad H locs cells slots lsA h hc hs T hT X
  obtain ⟨hm', hl, hna⟩ := zcal_ok ho hz h9
  have hk := zm_ok hm'
  obtain ⟨k0, hk0⟩ := hk.2.2.2.2.2.1
  have hok : ∀ v ∈ as, zvok t.2 v = true := fun w hw => h.2.1 w (by rw [ha] at hw; exact List.mem_of_mem_take (List.mem_reverse.mp hw))
  have hlen : as.length = k := by rw [ha, List.length_reverse, List.length_take]; omega
  have hk1 : k0 + 1 = k := by
    unfold znar at hna
    rw [hst, hk0] at hna
    simpa using hna
  have e1 : cells + (t1.2 - t.2) + zth (.inr x) = cells + (t1.2 - t.2 + 1) := by simp only [zth]; omega
  have e2 : slots + 16 * (t1.2 - t.2) + 6 * zth (.inr x) = slots + (16 * (t1.2 - t.2) + 6) := by simp only [zth]; omega
  have hcb := zCB (mc := t1.2 - t.2 + 1) (ms := 16 * (t1.2 - t.2) + 6) C ho hm' hl hf hw hk0
  obtain ⟨-, -, hRf, hRl, hws, -, hcode, hini, hy, hpar, hlink⟩ := hcb
  have hsp := zsplit (ad := ad) hn ha hr
  match as, hrv, hok, hlen, hsp, hcal with
  | .inr (some (kk0, i)) :: as', hrv, hok, hlen, hsp, hcal =>
    obtain ⟨fs, hkind⟩ := zcls_ok hrv
    obtain ⟨L0, hL0⟩ := h.2.2.1
    have hv : zok t.2 kk0 i = true := zall_h hok
    obtain ⟨q0, hq⟩ := hL0.pos hv
    obtain ⟨-, r, hr1, -⟩ := zkind_o hkind
    have hrec := va_recv (a := ad kk0 i) C.2.1.2.2 hL0.2.2.1 hr1 (q0 := q0) (fs := zenF ad t.1 kk0 i fs) (by rw [zl_get hq, zenc_o hkind])
    have hrn : r.1 = (zyy m').cls := by
      rw [hk.2.2.1]
      unfold zRn
      rw [List.getD_eq_getElem?_getD, hr1]
      rfl
    rw [hrn] at hrec
    obtain ⟨cellB, hcell, hobj, hcls⟩ := hrec
    obtain ⟨mk, methM, hnamed, hmethM, hstM, habM⟩ := Cond.instanceMethod_spec (C.2.1.2.1 _ (hk.2.2.2.2.2.2.2.2.2 hst).1)
    obtain ⟨methM', cM, hmethM', -, -, -, -, -, -, hsigM⟩ := Cond.code_spec hnamed hcode
    cases hmethM.symm.trans hmethM'
    obtain ⟨c2, r2, m2, q1, q2, q3, q4, kP, hkP, hkPi⟩ := Cond.selects_spec (C.2.1.2.1 _ (hk.2.2.2.2.2.2.2.2.2 hst).2)
    cases hcls.symm.trans q1
    cases (State.methodFound?_of_named hnamed hy).symm.trans q2
    cases hnamed.symm.trans q3
    have hselP : selectMethod e.platform s.vm cellB.cls mk = .method mk := by rw [Launch.admits_selectMethod X.admits]; exact q4
    have hsp' : (F0 m0 pc lsA (st.map (zcv ad))).stack = (as'.map (zcv ad)).reverse ++ .ref (ad kk0 i) :: rest.map (zcv ad) := by
      show st.map (zcv ad) = _
      rw [hsp]
      simp [zcv]
    obtain ⟨vm₁, X₁, hstep₁⟩ := X.invokevirtual C.1.1 C.2.1.1 hlink hnamed hmethM hstM hkP hkPi hy (a := ad kk0 i) (cell := cellB) (by rw [hT]; exact hcell) (fun z h => by rw [h] at hobj; cases hobj) hselP hmethM habM hkP hkPi (g := F0 m0 pc lsA (st.map (zcv ad))) rfl (argsL := as'.map (zcv ad)) (rest := rest.map (zcv ad)) (by rw [List.length_map, ← hpar _ hsigM]; simp only [List.length_cons] at hlen; omega) hsp' (by rw [C.1.2.1]; exact hd)
    have hcw := hws _ List.mem_cons_self ((Sum.inr (some (kk0, i)) :: as' : List zV).map (zcv ad)).toArray (T.setVm vm₁) X₁.warmed
    obtain ⟨a, u, U, L, g1, g2, g3, g4, g5, g6, g7, g8, g9⟩ := zpass (g := { F0 m0 pc lsA (st.map (zcv ad)) with stack := rest.map (zcv ad) }) (W0 := 8) (bytes := zbb m') (maxL := zlocs m') (ret := zrt m') X₁ (zmetT (sz := H.size) (ad := ad) htr hm' hcal (by rw [hlen, hna]) hok rfl rfl) hRf hRl (fun w hw => hws w hw _ _ X₁.warmed) hcw (hws _ (List.mem_cons_of_mem _ hk.2.1) _ _ X₁.warmed) (by rw [e1] at hc; exact hc) (by rw [e2] at hs; exact hs)
      (zPc_blind _ _ _ _ _ _ _ _ _ _ (zPc_at (as := Sum.inr (some (kk0, i)) :: as') C h (U := T.setVm vm₁) hT X₁.warmed)) rfl (by show lsA.size = _; rw [h.1.2.1, C.1.2.2.1]) (by rw [C.1.2.1]; exact hd) (by show 2 * 0 + _ ≤ 8; rw [zsum, hr, List.length_drop]; omega) (X₁.named hnamed) rfl rfl C.2.2.1.1 C.1.2.2.2.2
    exact ⟨U, hstep₁ U (fun acts => by rw [doInvoke_state]; exact g1), zpassed (st₀ := (T.setVm vm₁).calling { F0 m0 pc lsA (st.map (zcv ad)) with stack := rest.map (zcv ad) } mk ((Sum.inr (some (kk0, i)) :: as' : List zV).map (zcv ad)).toArray) C h rfl rfl hT X₁.warmed.alike g2 g3 g4 g5 g6 g7 g8⟩
end ZT
