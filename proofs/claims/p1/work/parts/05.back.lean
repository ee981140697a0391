/-! A method's point seen as a beginning; throwing; a call whose callee throws. -/
section ZB
variable {p : Program} {l : Launch} {e : Env} {R : Room} {s : State} {m : MethodId} {args : Array Value} {below : List Frame} {meth : Method} {c : Code} {T : State} {locs : List Loc} {cells slots : Nat}
abbrev zbeg (T : State) (m : MethodId) (args : Array Value) (below : List Frame) : State := T.setFrames (.invoking m args :: below)
theorem zrestart (X : Stand p l e R s m args below meth c T locs cells slots) {R' : Room} (hf : R'.frames ≤ R.frames) (hl : R'.locals ≤ R.locals) (hc : cells + R'.cells ≤ R.cells) (hs : slots + R'.slots ≤ R.slots) :
    Stand p l e R' (zbeg T m args below) m args below meth c T [] 0 0 := by
  obtain ⟨g₀, hfr⟩ := X.frames_eq
  have hcur : T.cur < T.threads.size := State.cur_lt_of_frames hfr
  have hF : (zbeg T m args below).frames = .invoking m args :: below := State.frames_setFrames _ hcur
  have hm : T.vm.method? m = some meth := X.method'
  obtain ⟨th, hth, -⟩ := State.frames_cons hfr
  obtain ⟨th0, hth0, -⟩ := State.frames_cons hF
  refine ⟨X.admits, X.cas, X.clock, hF, ?_, ?_, hm, X.code, X.here, X.tail, State.WarmedH.refl _, ?_, ?_, ?_⟩
  · obtain ⟨r1, r2, r3, r4⟩ := State.hasRoom_stack X.room
    have r5 := State.hasRoom_real X.room
    have h := X.room
    simp only [State.hasRoom, Bool.and_eq_true, decide_eq_true_eq] at h
    rw [State.localsInUse_invoking X.frames X.method X.code] at r3 r4 r5
    rw [X.frames, List.length_cons] at r1 r2
    have hU : (zbeg T m args below).localsInUse = stackWeight below + vmFrameWords + (c.maxLocals + 11) := State.localsInUse_invoking hF (meth := meth) (c := c) hm X.code
    have h3 := X.heapSize
    have h4 := X.used
    simp only [State.hasRoom, Bool.and_eq_true, decide_eq_true_eq, hF, hU, List.length_cons, State.stackLimits_setFrames, State.stackBytes_setFrames, X.limits, X.bytes]
    refine ⟨⟨⟨⟨by omega, by omega, by omega, by omega, by omega, h.1.1.1.2.2.2.2.2⟩, ?_⟩, ?_⟩, X.book⟩
    · have := h.1.1.2
      show T.heap.size + R'.cells ≤ _
      omega
    · have := h.1.2
      show T.slotsUsed + R'.slots ≤ _
      omega
  · have h := X.hears
    have hcq : ∀ mm, (zbeg T m args below).code? mm = s.code? mm := fun mm => by
      rw [State.code?_eq, State.code?_eq]
      show (T.vm.method? mm).bind _ = _
      rw [X.warmed.alike.method?]
    have hmq : (zbeg T m args below).vm.method? m = s.vm.method? m := X.warmed.alike.method? m
    rcases below with _ | ⟨f, r⟩
    · simp only [State.hears, hmq] at h ⊢
      exact h
    · cases f <;> simp only [State.hears, hcq, hmq] at h ⊢ <;> exact h
  · rw [State.stackLimits_setFrames]
  · rw [State.stackBytes_setFrames]
  · have h := (State.sameButNew.refl (zbeg T m args below) hth0).setFrames T.frames (State.cur_lt_of_frames hF)
    rw [State.setFrames_setFrames, State.setFrames_self hth] at h
    exact h
-- 'new X; dup; X.<init>(); athrow'
theorem zthrow (X : Stand p l e R s m args below meth c T locs cells slots) (hexec : p.tables.exec = Jvm.exec) (htr : e.platform.stackTraces = false) {own cls : String} {names : List String} {index ic : Nat} {cc : ByteArray} (hb : c.code = cc)
    (hown : s.vm.findClass own = some m.cls) (hcls : Bundle.fit cls = true) (hnames : ∀ n ∈ names, Bundle.fit n = true) (hw : ∀ a ∈ Bundle.ownAtoms0 own ic cls names, a.before args (zbeg T m args below) = true)
    (hcl : (Cond.classLink own index cls).before args (zbeg T m args below) = true) (hini : (Cond.initialized cls).before args (zbeg T m args below) = true)
    {pc : Nat} {ls : Array Slot} {st : List Value} (hsize : ls.size = c.maxLocals) (hd0 : decode cc pc = .ok (.new index, 3)) (hd3 : decode cc (pc + 3) = .ok (.dup, 1)) (hd4 : decode cc (pc + 4) = .ok (.invokespecial ic, 3)) (hd7 : decode cc (pc + 7) = .ok (.athrow, 1))
    (hex : c.exceptionTable.toList = []) (hRf : names.length + 3 < R.frames) (hRl : 1 + (st.map fun v => v.category).sum + (13 * (names.length + 1) + 41) ≤ R.locals) (hcells : cells + 1 ≤ R.cells) (hslots : slots + 6 ≤ R.slots) (hlocks : meth.locks = false) :
    ∃ (U : State) (a : Nat) (ce : Cell), Steps p.tables e below (T.setTop (F0 m pc ls st)) U ∧ U.status = .running ∧ Ended U below (.threw a) ∧ s.WarmedH U.vm ∧ s.sameButNew ({ U with vm := s.vm } : State) locs (cells + 1) (slots + 6) ∧
      (∀ q, q < T.heap.size → U.heap[q]? = T.heap[q]?) ∧ T.heap.size ≤ a ∧ U.heap[a]? = some ce ∧ s.vm.findClass cls = some ce.cls ∧ ce.vm = .none := by
  have X0 := zrestart X (R' := { frames := R.frames, locals := R.locals, cells := 1, slots := 6 }) (Nat.le_refl _) (Nat.le_refl _) hcells hslots
  have hown' : (zbeg T m args below).vm.findClass own = some m.cls := by
    show T.vm.findClass own = _
    rw [X.warmed.alike.findClass]
    exact hown
  have hinst : (Cond.instantiable cls 6).before args (zbeg T m args below) = true := hw _ (by simp [Bundle.ownAtoms0])
  obtain ⟨cC, -, hfc, -⟩ := Cond.instantiable_spec hinst
  have main : W p l e { frames := R.frames, locals := R.locals, cells := 1, slots := 6 } (zbeg T m args below) m args below meth c T.heap [] 0 0 (fun U => ∃ (a : Nat) (ce : Cell), U.status = .running ∧ Ended U below (.threw a) ∧ (zbeg T m args below).WarmedH U.vm ∧ (zbeg T m args below).sameButNew ({ U with vm := (zbeg T m args below).vm } : State) [] 1 6 ∧ T.heap.size ≤ a ∧ U.heap[a]? = some ce ∧ Bundle.OwnCell args (zbeg T m args below) cls a .null ce) (F0 m pc ls st) := by
    refine W.newcK hexec hb hown' hcl hinst hini rfl hd0 (Nat.le_refl _) (Nat.le_refl _) hfc rfl fun H' kC hkC e1 z1 o1 => ?_
    refine lv_dup hexec hb hd3 rfl ?_
    intro T2 hT2 X2
    obtain ⟨U, h1, h2, h3, h4, h5, ce, h6, h7⟩ := X2.ctorThrow0 hexec htr hown' hcls hnames hw (fun x hx => by cases hx) hfc hkC (a := T.heap.size) (by rw [hT2]; exact e1) (Nat.le_refl _) (g := F0 m (pc + 3 + 1) ls (.ref T.heap.size :: .ref T.heap.size :: st)) rfl hsize rfl rfl (rest := st) rfl (by rw [hb]; exact hd4) (by rw [hb]; exact hd7) (fun x hx => by rw [hex] at hx; cases hx) hRf (by simp only [List.map_cons, List.sum_cons]; show 2 * 0 + (1 + _) + _ ≤ _; omega) hlocks
    exact ⟨U, h1, _, ce, h2, h3, h4, h5, Nat.le_refl _, h6, h7⟩
  obtain ⟨U, hst, a, ce, h2, h3, h4, h5, h8, h6, h7⟩ := main T rfl X0
  obtain ⟨g₀, hfr⟩ := X.frames_eq
  have hcur : T.cur < T.threads.size := State.cur_lt_of_frames hfr
  obtain ⟨th, hth, -⟩ := State.frames_cons hfr
  have h9 := (((State.sameButNew.refl T hth).setFrames (.invoking m args :: below) hcur).trans h5)
  refine ⟨U, a, ce, hst, h2, h3, State.WarmedH.trans X.warmed h4, ?_, fun q hq => ?_, h8, h6, ?_, h7.vm⟩
  · have h10 := X.same.trans (h9.setVm s.vm)
    simp only [List.append_nil, List.nil_append, Nat.zero_add] at h10
    exact h10
  · have hq' : T.heap[q]? = some T.heap[q] := Array.getElem?_eq_getElem hq
    rw [hq']
    exact h5.old_cell (show (zbeg T m args below).heap[q]? = some T.heap[q] from hq')
  · have h10 : T.vm.findClass cls = some ce.cls := h7.cls
    rw [X.warmed.alike.findClass] at h10
    exact h10
-- a call, up to the callee's end
theorem zcalled {y : MethodName} {ws : List Cond} {rm : Room} {Pc : Array Value → State → Prop} {Qq : Array Value → State → Outcome → State → Prop} {bytes : ByteArray} {maxL W0 len : Nat} {ret : Option FieldType} {g : JFrame} {ig : Instr} {mk : MethodId} {a : Array Value}
    (X : Stand p l e R s m args below meth c T locs cells slots) (hM : MetFree l y (headSpec ws rm) Pc (fun _ _ _ _ _ => True) Qq) (hframes : rm.frames + 1 ≤ R.frames) (hlocals : W0 + (maxL + 11) + rm.locals ≤ R.locals) (hws : ∀ w ∈ ws, w.before a T = true)
    (hcode : (Cond.code y bytes maxL ret).before a T = true) (hini : (Cond.initialized y.cls).before a T = true) (hcells : cells + rm.cells ≤ R.cells) (hslots : slots + rm.slots ≤ R.slots) (hP : Pc a (T.calling g mk a)) (hg : g.method = m) (hsize : g.locals.size = c.maxLocals)
    (hdg : decode c.code g.pc = .ok (ig, len)) (hW : 2 * g.monitorRoom + (g.stack.map fun v => v.category).sum ≤ W0) (hn : T.methodNamed? y = some mk) :
    ∃ (o : Outcome) (s₂ : State), Steps p.tables e below (doInvoke e (T.setTop g) [] mk a).1 s₂ ∧ Ended s₂ (.java g :: below) o ∧ Qq a (T.calling g mk a) o s₂ := by
  obtain ⟨methY, cY, hmY, hcY, -, hlY, -, -, -, -⟩ := Cond.code_spec hn hcode
  obtain ⟨kY, hkY, -⟩ := className_of_methodNamed hn
  have hinitY : kY.init = .initialized := Cond.initialized_spec (findClass_of_methodNamed hn) hkY hini
  have h : At T g.method c below := by rw [hg]; exact X.here
  have happ : (headSpec ws rm).appliesLoose y e.platform (T.calling g mk a) = true :=
    Spec.appliesLoose_calling (g := g) h hdg hn hkY hinitY (X.room_calling (g := g) (R' := rm) hsize hmY hcY hframes (by rw [hlY]; omega) hcells hslots) (atoms_intro hws)
  obtain ⟨mid, hmid⟩ := h.above
  have hfr : (T.setTop g).frames = (.java g :: mid) ++ below := by rw [State.frames_setTop' g h.top, hmid]; rfl
  obtain ⟨o, s₂, hsteps, -, hend, hq⟩ := Steps.callFree hM p X.admits X.cas X.clock (acts := []) hfr happ hP trivial
  rw [State.frames_setTop' g h.top, X.tail] at hend
  exact ⟨o, s₂, hsteps, hend, hq⟩
-- what the end of a method says of the machine, whichever way it ended
def zFE (first t : State) (L : List Loc) (k n : Nat) : Prop := first.WarmedH t.vm ∧ first.sameButNew ({ t with vm := first.vm } : State) L k n
def zQT (Qt : State → Nat → State → Prop) (mc ms : Nat) (free : State → State → Nat → Prop) : Array Value → State → Outcome → State → Prop := fun _ st o t => (∃ x, o = .threw x ∧ Qt st x t) ∧ ∃ L, zFE st t L mc ms ∧ ∀ q ∈ L, free st t q.base
-- a callee that throws: so does the caller
theorem zpass {y : MethodName} {ws : List Cond} {rm : Room} {Pc : Array Value → State → Prop} {Qt : State → Nat → State → Prop} {free : State → State → Nat → Prop} {mc ms : Nat} {bytes : ByteArray} {maxL W0 len : Nat} {ret : Option FieldType} {g : JFrame} {ig : Instr} {mk : MethodId} {a : Array Value}
    (X : Stand p l e R s m args below meth c T locs cells slots) (hM : MetFree l y (headSpec ws rm) Pc (fun _ _ _ _ _ => True) (zQT Qt mc ms free)) (hframes : rm.frames + 1 ≤ R.frames) (hlocals : W0 + (maxL + 11) + rm.locals ≤ R.locals) (hws : ∀ w ∈ ws, w.before a T = true)
    (hcode : (Cond.code y bytes maxL ret).before a T = true) (hini : (Cond.initialized y.cls).before a T = true) (hcells : cells + rm.cells ≤ R.cells) (hslots : slots + rm.slots ≤ R.slots) (hP : Pc a (T.calling g mk a)) (hg : g.method = m) (hsize : g.locals.size = c.maxLocals)
    (hdg : decode c.code g.pc = .ok (ig, len)) (hW : 2 * g.monitorRoom + (g.stack.map fun v => v.category).sum ≤ W0) (hn : T.methodNamed? y = some mk) (hlocked : g.locked = none) (hentered : g.entered = []) (hex : c.exceptionTable.toList = []) (hlocks : meth.locks = false) :
    ∃ (x : Nat) (u U : State) (L : List Loc), Steps p.tables e below (doInvoke e (T.setTop g) [] mk a).1 U ∧ U.status = .running ∧ Ended U below (.threw x) ∧ s.WarmedH U.vm ∧ s.sameButNew ({ U with vm := s.vm } : State) (locs ++ L) (cells + mc) (slots + ms) ∧
      Qt (T.calling g mk a) x u ∧ (∀ q ∈ L, free (T.calling g mk a) u q.base) ∧ U.heap = u.heap ∧ U.vm = u.vm := by
  obtain ⟨o, s₂, hsteps, hend, ⟨x, rfl, hq⟩, L, hF, hL⟩ := zcalled X hM hframes hlocals hws hcode hini hcells hslots hP hg hsize hdg hW hn
  obtain ⟨T', X', h1, h2, h3⟩ := X.outOfThrown hg hend hF.1 hF.2
  obtain ⟨w1, w2, w3, w4, w5⟩ := X'.leaveThrown x hg hlocked hentered (fun z hz => by rw [hex] at hz; cases hz) hlocks
  refine ⟨x, s₂, _, L, hsteps.trans (by rw [h3]; exact w1), w2, w3, w4, w5, hq, hL, ?_, ?_⟩
  · rw [h3]
    exact (Stand.throwing_heap T' g x).symm
  · rw [h3]
    exact (Stand.throwing_vm T' g x).symm
end ZB
