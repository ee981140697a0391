/-! Constructors: what their walks share. -/
theorem va_RA.one {U : State} {c1 c2 : ClassId} {t : FieldType} (h1 : va_RA U c1 t) (h2 : va_RA U c2 t) : c1 = c2 := by
  cases t with
  | object C =>
    obtain ⟨-, -, -, -, -, a⟩ := h1
    obtain ⟨-, -, -, -, -, b⟩ := h2
    exact Option.some.inj (a.symm.trans b)
  | _ => exact Option.some.inj (Eq.trans (Eq.symm h1) h2)
theorem va_K.one {D : va_G} {ty : Nat → ClassId} {cA : ClassId} {ft : FieldType} {U : State} (i : Nat) {c2 : ClassId} (h : va_K D zcl (ztys ty ++ [(cA, ft)]) U) (hi : (ztys ty)[i]? = some (c2, ft)) : cA = c2 := by
  have hl : i < (ztys ty).length := (List.getElem?_eq_some_iff.mp hi).1
  exact va_RA.one (h.2 7 (cA, ft) rfl).2 (h.2 i (c2, ft) (by rw [List.getElem?_append_left hl]; exact hi)).2
def cNs : List Cond := [.methodLinkNest "PageKeeper" 11 ⟨"PageKeeper$Log", "<init>", "()V"⟩ "PageKeeper", .methodLinkNest "PageKeeper" 18 ⟨"PageKeeper$Pool", "<init>", "()V"⟩ "PageKeeper", .methodLinkNest "PageKeeper" 25 ⟨"PageKeeper$Locks", "<init>", "()V"⟩ "PageKeeper", .methodLinkNest "PageKeeper" 62 ⟨"PageKeeper$Page", "<init>", "()V"⟩ "PageKeeper", .methodLinkNest "PageKeeper$Page" 11 ⟨"PageKeeper$Contents", "<init>", "()V"⟩ "PageKeeper"]
theorem cAI {a a' : Array Value} {u U : State} (hvm : u.vm.Alike U.vm) (h : (Cond.arrayOver (.array .int)).before a u = true) : (Cond.arrayOver (.array .int)).before a' U = true := Jvm.Stand.arrayOver_alikeB (s := u) (args := a) (first := u) (o := none) (idx := []) hvm h
def cK (D : va_G) (ty : Nat → ClassId) (U : State) : Prop := va_K D zcl (ztys ty) U ∧ (∀ w ∈ cNs, va_Nw w U) ∧ va_AO "PageKeeper$LogRow" U ∧ va_AO "PageKeeper$Page" U ∧ (Cond.arrayOver (.array .int)).before #[] U = true
theorem cK.moved {D : va_G} {ty : Nat → ClassId} {u U : State} (hW : u.WarmedH U.vm) (h : cK D ty u) : cK D ty U := by
  refine ⟨h.1.moved hW.alike, fun w hw => ?_, h.2.2.1.moved hW.alike, h.2.2.2.1.moved hW.alike, cAI hW.alike h.2.2.2.2⟩
  have h2 := h.2.1 w hw
  simp only [cNs, List.mem_cons, List.not_mem_nil, or_false] at hw
  rcases hw with rfl | rfl | rfl | rfl | rfl <;> exact va_Nw.warmM hW h2
def cPc (D : va_G) (ty : Nat → ClassId) (h0 : Nat) (e : va_E) (sz : Nat) : Array Value → State → Prop := fun v U => v = ([Value.ref h0] : List Value).toArray ∧ U.heap.size = sz ∧ va_P D zcl [(h0, e)] U.heap ∧ cK D ty U
theorem cPc_blind (D : va_G) (ty : Nat → ClassId) (h0 : Nat) (e : va_E) (sz : Nat) : FrameBlind (cPc D ty h0 e sz) := by
  intro a U g mk h
  exact ⟨h.1, h.2.1, h.2.2.1, h.2.2.2.1.moved (Vm.Alike.refl _), fun w hw => va_Nw.same (u := U) (by
    simp only [cNs, List.mem_cons, List.not_mem_nil, or_false] at hw
    rcases hw with rfl | rfl | rfl | rfl | rfl <;> rfl) rfl (h.2.2.2.2.1 w hw), h.2.2.2.2.2.1.moved (Vm.Alike.refl _), h.2.2.2.2.2.2.1.moved (Vm.Alike.refl _), cAI (u := U) (Vm.Alike.refl _) h.2.2.2.2.2.2.2⟩
abbrev cQ (D : va_G) (h0 : Nat) (e : va_E) (sz : Nat) (B : va_W → Prop) : Array Value → State → Outcome → State → Prop := va_Qv B (fun ws t => va_P D zcl ws t.heap ∧ va_D (va_A [(h0, e)] sz) ws) (va_A [(h0, e)] sz)
def cCx (p : Program) (s : State) (m : MethodId) (args : Array Value) (c : Code) (D : va_G) (ty : Nat → ClassId) (A : Nat → Prop) (own : String) (cc : ByteArray) (nL : Nat) : Prop :=
  (p.tables.exec = Jvm.exec ∧ c.code = cc ∧ c.maxLocals = nL) ∧ (s.vm.findClass own = some m.cls ∧ ∀ w ∈ zWS, w.before args s = true) ∧ cK D ty s ∧ ∀ q, s.heap.size ≤ q → A q
def cSt (D : va_G) (A : Nat → Prop) (s : State) (ws : va_W) (H : Heap) (locs : List Loc) : Prop := va_P D zcl ws H ∧ va_D A ws ∧ va_S A s.heap H locs
theorem cD1 (h0 : Nat) (e : va_E) (sz : Nat) : va_D (va_A [(h0, e)] sz) [(h0, e)] := by
  refine ⟨fun i j p q hi hj _ => ?_, fun k q hk => va_A.in hk⟩
  have h1 : i < 1 := (List.getElem?_eq_some_iff.mp hi).1
  have h2 : j < 1 := (List.getElem?_eq_some_iff.mp hj).1
  omega
theorem cjoin {D : va_G} {A : Nat → Prop} {ws w1 : va_W} {q : Nat} {e : va_E} {H H1 : Heap} (hP : va_P D zcl (ws ++ [(q, e)]) H) (hD : va_D A (ws ++ [(q, e)])) (hk : ∀ x : Nat, x < H.size → ¬ va_A [(q, e)] H.size x → H1[x]? = H[x]?) (hF : ∀ x, va_A [(q, e)] H.size x → A x) (hP1 : va_P D zcl w1 H1) (hD1 : va_D (va_A [(q, e)] H.size) w1) : va_P D zcl (ws ++ w1) H1 ∧ va_D A (ws ++ w1) := by
  have hw : ∀ (k : Nat) (x : Nat × va_E), ws[k]? = some x → (ws ++ [(q, e)])[k]? = some x := fun k x hx => by
    rw [List.getElem?_append_left (List.getElem?_eq_some_iff.mp hx).1]
    exact hx
  have apart : ∀ (k : Nat) (x : Nat × va_E), ws[k]? = some x → x.1 < H.size ∧ ¬ va_A [(q, e)] H.size x.1 := by
    intro k x hx
    have hl := (hP k x (hw k x hx)).lt
    refine ⟨hl, fun h => ?_⟩
    rcases h with ⟨k2, e2, h⟩ | h
    · have hz : k2 < 1 := (List.getElem?_eq_some_iff.mp h).1
      rw [show k2 = 0 by omega] at h
      have hxq : x.1 = q := (congrArg Prod.fst (Option.some.inj h)).symm
      have := hD.1 k ws.length x (q, e) (hw k x hx) (by rw [List.getElem?_append_right (Nat.le_refl _), Nat.sub_self]; rfl) hxq
      have := (List.getElem?_eq_some_iff.mp hx).1
      omega
    · omega
  refine ⟨va_P.app (fun k x hx => (hP k x (hw k x hx)).kept (hk x.1 (apart k x hx).1 (apart k x hx).2)) hP1, va_D.app ⟨fun i j x y hi hj => hD.1 i j x y (hw i x hi) (hw j y hj), fun k x hx => hD.2 k x (hw k x hx)⟩ (hD1.weaken fun _ _ _ h => hF _ h) fun i j x y hx hy hxy => ?_⟩
  exact (apart i x hx).2 (by rw [hxy]; exact hD1.2 j y hy)
def cgrid (ty : Nat → ClassId) (q : Nat) : va_W := [(q, .inl (ty 6, 4, .inr (.inr (.inr (.inr (fun j => if j < 4 then some (q + 1 + j) else none)))))), (q + 1 + 0, .inl (ty 0, 40, .inl (fun _ => 0))), (q + 1 + 1, .inl (ty 0, 40, .inl (fun _ => 0))), (q + 1 + 2, .inl (ty 0, 40, .inl (fun _ => 0))), (q + 1 + 3, .inl (ty 0, 40, .inl (fun _ => 0)))]
theorem couter (c : ClassId) (N h : Nat) : ∀ i, Jvm.Free.Multi.outerC c N h i = arrV c N (fun j => va_rf (if j < i then some (h + 1 + j) else none))
  | 0 => arrV_new c N .null
  | i + 1 => by
    show (Jvm.Free.Multi.outerC c N h i).setSlot i (.ref (h + 1 + i)) = _
    rw [couter c N h i, arrV_store]
    congr 1
    funext j
    unfold updV
    by_cases hj : j = i
    · subst hj
      simp [va_rf]
    · by_cases hl : j < i
      · simp [hj, hl, Nat.lt_succ_of_lt hl]
      · have : ¬ j < i + 1 := by omega
        simp [hj, hl, this]
section CT
variable {p : Program} {l : Launch} {e : Env} {R : Room} {s : State} {m : MethodId} {args : Array Value} {below : List Frame} {meth : Method} {c : Code} {D : va_G} {ty : Nat → ClassId} {A : Nat → Prop} {own : String} {cc : ByteArray} {nL : Nat} {Q : State → Prop} {H : Heap} {locs : List Loc} {cells slots pc : Nat} {ls : Array Slot} {rest : List Value}
-- a field of this that isn't final
theorem cfi {h0 ci k N idx : Nat} {Cn : String} {T : u_T} {fs : List Value} {ws : va_W} {v : Int32} {ft : FieldType} (C : cCx p s m args c D ty A own cc nL) (h : cSt D A s ((h0, .inr (ci, fs)) :: ws) H locs) (hl : fs.length = N) (hc : zcl[ci]? = some (Cn, T, N)) (hk : k < N) (hlink : Cond.fieldLink own idx Cn (T k).2.1 (T k).2.2.1 ∈ zWS) (hdecl : (T k).1 = Cn) (hfin : (T k).2.2.2 = false) (hd : parseFieldDescriptor (T k).2.2.1 = some ft) (hn : narrow ft (.int v) = .int v) (hfit : fits ft (.int v) = true) (hdg : decode cc pc = .ok (.putfield idx, 3))
    (kk : ∀ (fs1 : List Value) (H1 : Heap) (locs1 : List Loc), fs1 = fs.set k (.int v) → fs1.length = N → cSt D A s ((h0, .inr (ci, fs1)) :: ws) H1 locs1 → W p l e R s m args below meth c H1 locs1 cells slots Q (F0 m (pc + 3) ls rest)) : W p l e R s m args below meth c H locs cells slots Q (F0 m pc ls (.int v :: .ref h0 :: rest)) := by
  obtain ⟨⟨ty0, hty⟩, hnm⟩ := zcl_ty hc
  refine va_put (D := D) (ci := ci) (ref := Cn) (C := Cn) (T := T) (N := N) C.1.1 C.1.2.1 C.2.1.2 (zcl_in hc) ty0 hty hnm C.2.1.1 C.2.2.1.1 h.1 h.2.1 h.2.2 0 rfl hc k hk (C.2.1.2 _ hlink) (fun x hx => by rw [hdecl] at hx; exact hx) hfin hd hn hfit (by omega) hdg fun H1 locs1 hP hD hS => ?_
  exact kk _ H1 locs1 rfl (by rw [List.length_set]; exact hl) ⟨hP, hD, hS⟩
-- a final field of this: a reference
theorem cfr {h0 ci k N idx q : Nat} {Cn : String} {T : u_T} {fs : List Value} {ws : va_W} {ft : FieldType} (C : cCx p s m args c D ty A own cc nL) (hin : meth.name = "<init>") (h : cSt D A s ((h0, .inr (ci, fs)) :: ws) H locs) (hl : fs.length = N) (hc : zcl[ci]? = some (Cn, T, N)) (hown : Cn = own) (hk : k < N) (hlink : Cond.fieldLink own idx Cn (T k).2.1 (T k).2.2.1 ∈ zWS) (hdecl : (T k).1 = Cn) (hfin : (T k).2.2.2 = true) (hd : parseFieldDescriptor (T k).2.2.1 = some ft) (hn : narrow ft (.ref q) = .ref q) (hfit : fits ft (.ref q) = true) (hdg : decode cc pc = .ok (.putfield idx, 3))
    (kk : ∀ (fs1 : List Value) (H1 : Heap) (locs1 : List Loc), fs1 = fs.set k (.ref q) → fs1.length = N → cSt D A s ((h0, .inr (ci, fs1)) :: ws) H1 locs1 → W p l e R s m args below meth c H1 locs1 cells slots Q (F0 m (pc + 3) ls rest)) : W p l e R s m args below meth c H locs cells slots Q (F0 m pc ls (.ref q :: .ref h0 :: rest)) := by
  obtain ⟨⟨ty0, hty⟩, hnm⟩ := zcl_ty hc
  refine va_putF (D := D) (ci := ci) (ref := Cn) (C := Cn) (T := T) (N := N) C.1.1 C.1.2.1 C.2.1.2 (zcl_in hc) ty0 hty hnm C.2.1.1 C.2.2.1.1 h.1 h.2.1 h.2.2 0 rfl hc k hk (C.2.1.2 _ hlink) (fun x hx => by rw [hdecl] at hx; exact hx) hfin hin (hdecl.trans hown) hd hn hfit (by omega) hdg fun H1 locs1 hP hD hS => ?_
  exact kk _ H1 locs1 rfl (by rw [List.length_set]; exact hl) ⟨hP, hD, hS⟩
-- a new array of numbers
theorem cna {n : Int32} {N' : Nat} {ws : va_W} {atype : ArrayType} {ft : FieldType} (i : Nat) (C : cCx p s m args c D ty A own cc nL) (h : cSt D A s ws H locs) (harr : Cond.arrayClass (newarray.typeOf atype) ∈ zWS) (hty : newarray.typeOf atype = ft) (hi : (ztys ty)[i]? = some (ty i, ft)) (hdv : defaultValue ft = .int 0) (hn : ¬ n < 0) (hN : n.toNatClampNeg = N') (hbytes : N' * componentBytes ft ≤ 536870912) (hcells : cells + 1 ≤ R.cells) (hslots : slots + N' ≤ R.slots) (hdg : decode cc pc = .ok (.newarray atype, 2))
    (kk : ∀ (q : Nat) (H1 : Heap), cSt D A s (ws ++ [(q, .inl (ty i, N', .inl (fun _ => 0)))]) H1 locs → W p l e R s m args below meth c H1 locs (cells + 1) (slots + N') Q (F0 m (pc + 2) ls (.ref q :: rest))) : W p l e R s m args below meth c H locs cells slots Q (F0 m pc ls (.int n :: rest)) := by
  refine va_newa (a0 := (N', .inl (fun _ => 0))) C.1.1 C.1.2.1 (C.2.1.2 _ harr) hty C.2.2.1.1 h.1 h.2.1 h.2.2 C.2.2.2 (fun cA => by rw [hdv]; rfl) hn hN hbytes hcells hslots hdg fun q cA H1 hK hP hD hS => ?_
  cases va_K.one i hK hi
  exact kk q H1 ⟨hP, hD, hS⟩
-- a new array of references
theorem cnq {n : Int32} {N' idx : Nat} {ws : va_W} {Cn : String} (i : Nat) (C : cCx p s m args c D ty A own cc nL) (h : cSt D A s ws H locs) (hcl : Cond.classLink own idx Cn ∈ zWS) (hov : va_AO Cn s) (hi : (ztys ty)[i]? = some (ty i, .object Cn)) (hn : ¬ n < 0) (hN : n.toNatClampNeg = N') (hbytes : N' * 4 ≤ 536870912) (hcells : cells + 1 ≤ R.cells) (hslots : slots + N' ≤ R.slots) (hdg : decode cc pc = .ok (.anewarray idx, 3))
    (kk : ∀ (q : Nat) (H1 : Heap), cSt D A s (ws ++ [(q, .inl (ty i, N', .inr (.inr (.inr (.inr (fun _ => none))))))]) H1 locs → W p l e R s m args below meth c H1 locs (cells + 1) (slots + N') Q (F0 m (pc + 3) ls (.ref q :: rest))) : W p l e R s m args below meth c H locs cells slots Q (F0 m pc ls (.int n :: rest)) := by
  refine va_newq C.1.1 C.1.2.1 C.2.1.1 (C.2.1.2 _ hcl) hov C.2.2.1.1 h.1 h.2.1 h.2.2 C.2.2.2 hn hN hbytes hcells hslots hdg fun q cA H1 hK hP hD hS => ?_
  cases va_K.one i hK hi
  exact kk q H1 ⟨hP, hD, hS⟩
-- new, dup, a constructor's call
theorem cnew {N ci idx ic maxL mc ms : Nat} {Cn host : String} {T : u_T} {ty0 : Nat → FieldType} {fs : List Value} {ws : va_W} {y : MethodName} {bytes : ByteArray} {rm : Room} {B : Nat → va_W → Prop} (C : cCx p s m args c D ty A own cc nL) (h : cSt D A s ws H locs) (hc : zcl[ci]? = some (Cn, T, N)) (hty : ∀ k, k < N → parseFieldDescriptor (T k).2.2.1 = some (ty0 k)) (hfs : ∀ j, j < N → defaultValue (ty0 j) = vp_V fs j)
    (hcl : Cond.classLink own idx Cn ∈ zWS) (hinst : Cond.instantiable Cn N ∈ zWS) (hini : Cond.initialized Cn ∈ zWS) (hM : ∀ q sz, Met l y (Cond.code y bytes maxL none :: zWS) rm (cPc D ty q (.inr (ci, fs)) sz) (cQ D q (.inr (ci, fs)) sz (B q)) mc ms (va_A [(q, .inr (ci, fs))] sz))
    (hcode : Cond.code y bytes maxL none ∈ zWS) (him : Cond.instanceMethod y ∈ zWS) (hyn : y.name = "<init>") (hyc : y.cls = Cn) (hy : y.cls ≠ "java/lang/invoke/MethodHandle" ∧ y.cls ≠ "java/lang/invoke/VarHandle") (hpar : (parseMethodDescriptor y.desc).map (fun d => d.parameters.length) = some 0) (hlink : va_Nw (.methodLinkNest own ic y host) s ∨ Cond.methodLink own ic y ∈ zWS)
    (hrc : rm.cells = mc) (hrs : rm.slots = ms) (hfr : rm.frames + 1 ≤ R.frames) (hlo : 8 + (maxL + 11) + rm.locals ≤ R.locals) (hls : ls.size = nL) (hr : (rest.map fun v => v.category).sum ≤ 6) (hd0 : decode cc pc = .ok (.new idx, 3)) (hd1 : decode cc (pc + 3) = .ok (.dup, 1)) (hd2 : decode cc (pc + 4) = .ok (.invokespecial ic, 3)) (hcells : cells + 1 + mc ≤ R.cells) (hslots : slots + N + ms ≤ R.slots)
    (kk : ∀ (q : Nat) (w1 : va_W) (H1 : Heap) (locs1 : List Loc), B q w1 → cSt D A s (ws ++ w1) H1 locs1 → W p l e R s m args below meth c H1 locs1 (cells + 1 + mc) (slots + N + ms) Q (F0 m (pc + 7) ls (.ref q :: rest))) : W p l e R s m args below meth c H locs cells slots Q (F0 m pc ls rest) := by
  have hts := C.2.1.2
  refine va_new (c0 := c) C.1.1 C.1.2.1 (own := own) (C := Cn) (T := T) (N := N) (ci := ci) (Ts := zWS) hts (zcl_in hc) ty0 hty C.2.1.1 (hts _ hcl) (hts _ hinst) (hts _ hini) C.2.2.1.1 h.1 h.2.1 h.2.2 C.2.2.2 hc (fs := fs) hfs (by omega) (by omega) hd0 fun q H1 hP hD hS => ?_
  refine lv_dup C.1.1 C.1.2.1 hd1 rfl ?_
  have hall : ∀ w ∈ Cond.code y bytes maxL none :: zWS, ∀ (a' : Array Value) (U : State), s.WarmedH U.vm → w.before a' U = true := by
    intro w hw a' U hW
    rcases List.mem_cons.mp hw with rfl | hw
    · exact zword hW (zWS_good hcode) (hts _ hcode)
    · exact zword hW (zWS_good hw) (hts _ hw)
  have hpar : ∀ sig, parseMethodDescriptor y.desc = some sig → 0 = sig.parameters.length := by
    intro sig e1
    rw [e1] at hpar
    exact (Option.some.inj hpar).symm
  have hPq : va_P D zcl [(q, .inr (ci, fs))] H1 := fun k x hx => by
    have hz : k < 1 := (List.getElem?_eq_some_iff.mp hx).1
    rw [show k = 0 by omega] at hx
    exact hP ws.length x (by rw [List.getElem?_append_right (Nat.le_refl _), Nat.sub_self]; exact hx)
  have hpre : PreS s H1 (cPc D ty q (.inr (ci, fs)) H1.size) [.ref q] := ⟨cPc_blind _ _ _ _ _, fun U hU hW => ⟨rfl, by rw [hU], by rw [hU]; exact hPq, C.2.2.1.moved hW⟩⟩
  have hini' : Cond.initialized y.cls ∈ zWS := by rw [hyc]; exact hini
  have hrun : va_Run p l e R s m args below meth c H1 locs (cells + 1) (slots + N) mc ms (F0 m (pc + 4) ls (.ref q :: .ref q :: rest)) (.ref q :: rest) (cQ D q (.inr (ci, fs)) H1.size (B q) (Value.ref q :: ([] : List Value)).toArray) (va_A [(q, .inr (ci, fs))] H1.size) := by
    have hcat : 2 * (F0 m (pc + 4) ls (.ref q :: .ref q :: rest)).monitorRoom + ((Value.ref q :: rest).map fun v => v.category).sum ≤ 8 := by
      show 2 * 0 + _ ≤ 8
      simp only [List.map_cons, List.sum_cons]
      show 2 * 0 + (1 + _) ≤ 8
      omega
    rcases hlink with hlink | hlink
    · exact va_runIN (n := 0) (cc := cc) (nL := nL) (Ts := zWS) (own := own) (host := host) (index := ic) (bytes := bytes) (maxL := maxL) (b := q) (As := []) ⟨C.1.1, C.1.2.1, C.1.2.2, C.2.1.1, hts⟩ (hM q H1.size) ⟨⟨⟨hrc, hrs, hfr, hlo, hall, List.mem_cons_self⟩, hts _ hcode, hts _ hini', hy, hpar, va_Nw.use rfl hlink⟩, hyn, hts _ him⟩ hpre rfl rfl hls rfl hcat hd2 ⟨by omega, by omega⟩
    · exact va_runI (n := 0) (cc := cc) (nL := nL) (Ts := zWS) (own := own) (index := ic) (bytes := bytes) (maxL := maxL) (b := q) (As := []) ⟨C.1.1, C.1.2.1, C.1.2.2, C.2.1.1, hts⟩ (hM q H1.size) ⟨⟨hrc, hrs, hfr, hlo, hall, List.mem_cons_self, hts _ hcode, hts _ hini', hy, hpar, hts _ hlink⟩, hyn, hts _ him⟩ hpre rfl rfl hls rfl hcat hd2 ⟨by omega, by omega⟩
  have hF : ∀ x, va_A [(q, .inr (ci, fs))] H1.size x → A x := by
    intro x hx
    rcases hx with ⟨k, e2, hx⟩ | hx
    · have hz : k < 1 := (List.getElem?_eq_some_iff.mp hx).1
      rw [show k = 0 by omega] at hx
      have hxq : x = q := (congrArg Prod.fst (Option.some.inj hx)).symm
      rw [hxq]
      exact hD.2 ws.length (q, .inr (ci, fs)) (by rw [List.getElem?_append_right (Nat.le_refl _), Nat.sub_self]; rfl)
    · exact C.2.2.2 x (Nat.le_trans hS.1 hx)
  refine va_callv hrun hS (fun x _ hx => hF x hx) hF fun w1 t H2 locs2 ht hvm hB hW hz hk hS2 => ?_
  obtain ⟨hP1, hD1⟩ := hW
  rw [ht] at hP1
  obtain ⟨hP2, hD2⟩ := cjoin hP hD hk hF hP1 hD1
  exact kk q w1 H2 locs2 hB ⟨hP2, hD2, hS2⟩
-- a new array of four arrays of forty ints
theorem cmn {idx : Nat} {ws : va_W} (C : cCx p s m args c D ty A own cc nL) (h : cSt D A s ws H locs) (hcl : Cond.classLink own idx "[[I" ∈ zWS) (harr : Cond.arrayClass .int ∈ zWS) (hcells : cells + 5 ≤ R.cells) (hslots : slots + 164 ≤ R.slots) (hdg : decode cc pc = .ok (.multianewarray idx 2, 4))
    (kk : ∀ (q : Nat) (H1 : Heap), cSt D A s (ws ++ cgrid ty q) H1 locs → W p l e R s m args below meth c H1 locs (cells + 5) (slots + 164) Q (F0 m (pc + 4) ls (.ref q :: rest))) : W p l e R s m args below meth c H locs cells slots Q (F0 m pc ls (.int 40 :: .int 4 :: rest)) := by
  intro T hT X
  obtain ⟨vm₁, cA, comp, hW, hfA, hfC, hO, hI, X1, st⟩ := X.multianewarray2F C.1.1 (own := own) (index := idx) (ty := .int) C.2.1.1 (C.2.1.2 _ hcl) C.2.2.1.2.2.2.2 (C.2.1.2 _ harr) (g := F0 m pc ls (.int 40 :: .int 4 :: rest)) rfl (by rw [C.1.2.1]; exact hdg) (n := 4) (k := 40) (rest := rest) rfl (by decide) (by decide) (by decide) (by decide) (by decide) rfl rfl hcells hslots
  have hA : cA = ty 6 := va_RA.one (t := .array .int) hfA (C.2.2.1.1.2 6 _ rfl).2
  have hB : comp = ty 0 := va_RA.one (t := .int) hfC (C.2.2.1.1.2 0 _ rfl).2
  subst hA
  subst hB
  obtain ⟨f1, f2, f3, f4⟩ := Jvm.Free.Multi.fill_facts (T.setVm vm₁) (ty 6) (ty 0) 4 40 (defaultValue .int) 4
  have fo := fun (a : Addr) (ha : a < T.heap.size) => Jvm.Free.Multi.fill_old (T.setVm vm₁) (ty 6) (ty 0) 4 40 (defaultValue .int) (a := a) ha 4
  have fi := fun (j : Nat) (hj : j < 4) => Jvm.Free.Multi.fill_inner (T.setVm vm₁) (ty 6) (ty 0) 4 40 (defaultValue .int) 4 j hj
  have X2 : Stand p l e R s m args below meth c (Jvm.Free.Multi.fill (T.setVm vm₁) (ty 6) (ty 0) 4 40 (defaultValue .int) 4) locs (cells + 5) (slots + 164) := X1
  have st2 : ∀ target, Steps p.tables e below ((Jvm.Free.Multi.fill (T.setVm vm₁) (ty 6) (ty 0) 4 40 (defaultValue .int) 4).setTop (F0 m (pc + 4) ls (.ref T.heap.size :: rest))) target → Steps p.tables e below (T.setTop (F0 m pc ls (.int 40 :: .int 4 :: rest))) target := st
  generalize Jvm.Free.Multi.fill (T.setVm vm₁) (ty 6) (ty 0) 4 40 (defaultValue .int) 4 = F at f1 f2 fo fi X2 st2
  have f1 : F.heap.size = T.heap.size + 1 + 4 := f1
  have f2 : F.heap[T.heap.size]? = some (Jvm.Free.Multi.outerC (ty 6) 4 T.heap.size 4) := f2
  have fi : ∀ j, j < 4 → F.heap[T.heap.size + 1 + j]? = some (Jvm.Free.Multi.innerC (ty 0) 40 (defaultValue .int)) := fi
  have fo : ∀ a, a < T.heap.size → F.heap[a]? = T.heap[a]? := fo
  rw [hT] at f1 f2 fi fo st2
  have hin : ∀ j, j < 4 → F.heap[H.size + 1 + j]? = some (vp_cell (ty 0) (40, .inl (fun _ => 0))) := fun j hj => by
    rw [fi j hj]
    exact congrArg some (arrV_new (ty 0) 40 (.int 0))
  have hPg : va_P D zcl (cgrid ty H.size) F.heap := by
    intro k x hx
    have hz : k < 5 := (List.getElem?_eq_some_iff.mp hx).1
    have hk : k = 0 ∨ k = 1 ∨ k = 2 ∨ k = 3 ∨ k = 4 := by omega
    rcases hk with rfl | rfl | rfl | rfl | rfl
    · cases hx
      show F.heap[H.size]? = some (vp_cell _ _)
      rw [f2, couter]
      rfl
    · cases hx
      exact hin 0 (by decide)
    · cases hx
      exact hin 1 (by decide)
    · cases hx
      exact hin 2 (by decide)
    · cases hx
      exact hin 3 (by decide)
  have hag : ∀ (k : Nat) (x : Nat × va_E), (cgrid ty H.size)[k]? = some x → x.1 = H.size + k := by
    intro k x hx
    have hz : k < 5 := (List.getElem?_eq_some_iff.mp hx).1
    have hk : k = 0 ∨ k = 1 ∨ k = 2 ∨ k = 3 ∨ k = 4 := by omega
    rcases hk with rfl | rfl | rfl | rfl | rfl <;> (cases hx; rfl)
  have hP2 : va_P D zcl ws F.heap := h.1.kept fun k x hx => fo x.1 ((h.1 k x hx).lt)
  refine Exists.elim (kk H.size F.heap ⟨va_P.app hP2 hPg, va_D.app h.2.1 ⟨fun i j x y hx hy hxy => ?_, fun k x hx => ?_⟩ fun i j x y hx hy hxy => ?_, ?_⟩ F rfl X2) fun u hu => ⟨u, st2 u hu.1, hu.2⟩
  · have h1 := hag i x hx
    have h2 := hag j y hy
    omega
  · rw [hag k x hx]
    exact C.2.2.2 _ (Nat.le_trans h.2.2.1 (Nat.le_add_right _ _))
  · have h1 := (h.1 i x hx).lt
    have h2 := hag j y hy
    omega
  · refine ⟨Nat.le_trans h.2.2.1 (by rw [f1]; omega), fun q h1 h2 => ?_, h.2.2.2.2⟩
    rw [fo q (Nat.lt_of_lt_of_le h1 h.2.2.1)]
    exact h.2.2.2.1 q h1 h2
end CT
