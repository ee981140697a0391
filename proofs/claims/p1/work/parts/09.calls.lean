/-! Contracts out of the small machine's runs; calls; throws. -/
def zws (m : Nat) : List Cond := Cond.code (zyy m) (zbb m) (zlocs m) (zrt m) :: zWS
def zrm (m mc ms : Nat) : Room := { frames := zFr m, locals := zLo m, cells := mc, slots := ms }
def zPc (D : va_G) (ty : Nat → ClassId) (ad : zA) (t : zT) (as : List zV) (sz : Nat) : Array Value → State → Prop := fun a U => a = (as.map (zcv ad)).toArray ∧ U.heap.size = sz ∧ zW D ty ad t U.heap ∧ va_K D zcl (ztys ty) U ∧ zTh U
-- words that speak of a statics cell
theorem zkeepR {C n d : String} {a a' : Array Value} {u U : State} (hvm : U.vm = u.vm) (hh : ∀ (q : Nat) (cell : Cell), u.heap[q]? = some cell → cell.vm.isStatics = true → U.heap[q]? = some cell) (h : (Cond.isRef (.static C n d)).before a u = true) : (Cond.isRef (.static C n d)).before a' U = true := by
  have hf : U.fieldNamed? C n d true = u.fieldNamed? C n d true := by
    unfold State.fieldNamed? State.fieldFound?
    rw [hvm]
  simp only [Cond.before, Cond.holds, Cond.value, Term.eval, hf] at h ⊢
  cases hq : u.fieldNamed? C n d true with
  | none => simp [hq] at h
  | some x =>
    obtain ⟨c0, k, slot⟩ := x
    cases hs : k.statics with
    | none => simp [hq, hs] at h
    | some a0 =>
      cases hc : u.heap[a0]? with
      | none => simp [hq, hs, hc] at h
      | some cell =>
        by_cases hi : cell.vm.isStatics = true
        · have := hh a0 cell hc hi
          simpa [hq, hs, hc, this] using h
        · simp [hq, hs, hc, hi] at h
theorem zkeepL {C n d : String} {a a' : Array Value} {u U : State} (hvm : U.vm = u.vm) (hh : ∀ (q : Nat) (cell : Cell), u.heap[q]? = some cell → cell.vm.isStatics = true → U.heap[q]? = some cell) (h : (Cond.laysStatic C n d).before a u = true) : (Cond.laysStatic C n d).before a' U = true := by
  have hf : U.fieldFound? C n d = u.fieldFound? C n d := by
    unfold State.fieldFound?
    rw [hvm]
  simp only [Cond.before, Cond.holds, Cond.value, hf, hvm] at h ⊢
  cases h1 : u.vm.findClass C with
  | none => simp [h1] at h
  | some c0 =>
    cases h2 : u.fieldFound? C n d with
    | none => simp [h1, h2] at h
    | some x =>
      obtain ⟨c', k, i, f⟩ := x
      cases hs : k.statics with
      | none => simp [h1, h2, hs] at h
      | some a0 =>
        cases hc : u.heap[a0]? with
        | none => simp [h1, h2, hs, hc] at h
        | some cell =>
          by_cases hi : cell.vm.isStatics = true
          · have := hh a0 cell hc hi
            simpa [h1, h2, hs, hc, this] using h
          · simp [h1, h2, hs, hc, hi] at h
theorem zkeepW {w : Cond} (hw : w ∈ zthW) {a a' : Array Value} {u U : State} (hvm : U.vm = u.vm) (hh : ∀ (q : Nat) (cell : Cell), u.heap[q]? = some cell → cell.vm.isStatics = true → U.heap[q]? = some cell) (h : w.before a u = true) : w.before a' U = true := by
  simp only [zthW, List.mem_cons, List.not_mem_nil, or_false] at hw
  rcases hw with rfl | rfl | rfl | rfl
  · exact zkeepL hvm hh h
  · exact zkeepL hvm hh h
  · exact zkeepR hvm hh h
  · exact zkeepR hvm hh h
theorem zthW_keeps {w : Cond} (hw : w ∈ zthW) : w.keeps = true := by
  simp only [zthW, List.mem_cons, List.not_mem_nil, or_false] at hw
  rcases hw with rfl | rfl | rfl | rfl <;> rfl
theorem zthW_at {w : Cond} (hw : w ∈ zthW) {a' : Array Value} {u U : State} (hW : u.WarmedH U.vm) (hh : ∀ (q : Nat) (cell : Cell), u.heap[q]? = some cell → cell.vm.isStatics = true → U.heap[q]? = some cell) (h : zTh u) : w.before a' U = true := by
  have h1 : w.before #[] (u.setVm U.vm) = true := Cond.holds_shifted (State.Shifted.of_warmed hW) w [] (zthW_keeps hw) (h.2 w hw)
  exact zkeepW hw (u := u.setVm U.vm) rfl hh h1
theorem zTh.moved {u U : State} (hW : u.WarmedH U.vm) (hh : ∀ (q : Nat) (cell : Cell), u.heap[q]? = some cell → cell.vm.isStatics = true → U.heap[q]? = some cell) (h : zTh u) : zTh U := ⟨va_Nw.warmM hW h.1, fun w hw => zthW_at hw hW hh h⟩
theorem zTh.same {u U : State} (hvm : U.vm = u.vm) (hh : U.heap = u.heap) (h : zTh u) : zTh U := ⟨va_Nw.same rfl hvm.symm h.1, fun w hw => zkeepW hw hvm (fun q cell hq _ => by rw [hh]; exact hq) (h.2 w hw)⟩
theorem zPc_blind (D : va_G) (ty : Nat → ClassId) (ad : zA) (t : zT) (as : List zV) (sz : Nat) : FrameBlind (zPc D ty ad t as sz) := by
  intro a U g mk h
  exact ⟨h.1, h.2.1, h.2.2.1, h.2.2.2.1.moved (Vm.Alike.refl _), zTh.same (u := U) (U := U.calling g mk a) rfl rfl h.2.2.2.2⟩
theorem zAr_ok {D : va_G} {ty : Nat → ClassId} {ad : zA} {t : zT} {s : State} (h : zW D ty ad t s.heap) : zAok (zAr ad t.2 s.heap.size) s := by
  refine ⟨fun q hq => Or.inr hq, fun q cell hq hs hA => ?_⟩
  rcases hA with ⟨k, i, h1, h2⟩ | hA
  · obtain ⟨cell', h3, h4⟩ := zW_vm h h1
    rw [← h2, hq] at h3
    cases h3
    rw [h4] at hs
    cases hs
  · have := (Array.getElem?_eq_some_iff.mp hq).1
    omega
theorem zent_ls {ad : zA} {md m : Nat} {as : List zV} (ha : as.length ≤ zlocs m) (hv : ∀ v ∈ as, zvok md v = true) : zLs ad md (zent m as) (((as.map (zcv ad)).map Slot.val ++ List.replicate (zlocs m - (as.map (zcv ad)).length) Slot.unset).toArray) (zlocs m) := by
  have hget : ∀ (i : Nat) (x : Slot), (((as.map (zcv ad)).map Slot.val ++ List.replicate (zlocs m - (as.map (zcv ad)).length) Slot.unset).toArray)[i]? = some x → x = .unset ∨ ∃ v, x = .val (zcv ad v) := by
    intro i x hx
    rw [List.getElem?_toArray] at hx
    rcases List.mem_append.mp (List.mem_of_getElem? hx) with h | h
    · obtain ⟨y, hy, rfl⟩ := List.mem_map.mp h
      obtain ⟨v, -, rfl⟩ := List.mem_map.mp hy
      exact Or.inr ⟨v, rfl⟩
    · exact Or.inl (List.eq_of_mem_replicate h)
  refine ⟨?_, ?_, ⟨fun i v hi hc => ?_, fun i hi => ?_⟩, fun i v hi => ?_⟩
  · simp [zent]
    omega
  · simp
    omega
  · exfalso
    rcases hget i _ hi with h | ⟨w, h⟩
    · cases h
    · cases h
      rw [zcv_cat] at hc
      omega
  · exfalso
    rcases hget i _ hi with h | ⟨w, h⟩
    · cases h
    · cases h
  · unfold zent at hi
    by_cases hl : i < as.length
    · rw [List.getElem?_append_left (by simpa using hl), List.getElem?_map] at hi
      cases hq : as[i]? with
      | none => rw [hq] at hi; cases hi
      | some w =>
        rw [hq] at hi
        have e : w = v := by simpa using hi
        subst e
        refine ⟨hv w (List.mem_of_getElem? hq), ?_⟩
        rw [List.getElem?_toArray, List.getElem?_append_left (by simpa using hl), List.getElem?_map, List.getElem?_map, hq]
        rfl
    · rw [List.getElem?_append_right (by simpa using Nat.not_lt.mp hl)] at hi
      have := List.eq_of_mem_replicate (List.mem_of_getElem? hi)
      cases this
-- a callee's soundness, in whatever surroundings
def zCal (l : Launch) (D : va_G) (ty : Nat → ClassId) (m : Nat) (as : List zV) (t : zT) (o : zO) (t1 : zT) : Prop := ∀ (p : Program) (e : Env) (R : Room) (s : State) (m0 : MethodId) (args : Array Value) (below : List Frame) (meth : Method) (c : Code) (A : Nat → Prop), zCx p l e R s m0 args meth c D ty A m → zOK p l e R s m0 args below meth c D ty A m 0 (zent m as) [] t o t1
theorem zbody {l : Launch} {D : va_G} {ty : Nat → ClassId} {m sz mc ms : Nat} {as : List zV} {t t1 : zT} {o : zO} {ad : zA} (htr : ∀ e, l.admits e → e.platform.stackTraces = false) (hm : m < 123) (hc : zCal l D ty m as t o t1) (has : as.length = znar m) (hok : ∀ v ∈ as, zvok t.2 v = true) (hmc : mc = t1.2 - t.2 + zth o) (hms : ms = 16 * (t1.2 - t.2) + 6 * zth o)
    {p : Program} {e : Env} {s : State} {m0 : MethodId} {args : Array Value} {below : List Frame} {meth : Method} {c : Code} {s₁ : State} (B : BodyLoose p l (zyy m) (headSpec (zws m) (zrm m mc ms)) (zbb m) (zlocs m) (zrt m) e s m0 args below meth c s₁) (hml : c.maxLocals = zlocs m) (hP : zPc D ty ad t as sz args s) :
    W p l e (zrm m mc ms) s m0 args below meth c s.heap [] 0 0 (zEnd D ty (zAr ad t.2 sz) s below ad t.2 o t1 mc ms) (entryFrame m0 args (zlocs m)) := by
  obtain ⟨ha, hsz, hw, hK, hT⟩ := hP
  have hws : ∀ w ∈ zws m, w.before args s = true := atoms_spec B.pre
  have hk := zm_ok hm
  have C : zCx p l e (zrm m mc ms) s m0 args meth c D ty (zAr ad t.2 sz) m := by
    refine ⟨⟨B.exec, B.bytes, hml, B.returns, B.notSynchronized⟩, ⟨?_, fun w hw => hws w (List.mem_cons_of_mem _ hw), hK⟩, ⟨?_, Nat.le_refl _, Nat.le_refl _, hT, htr e B.admits⟩, ?_⟩
    · rw [← hk.2.2.1]
      exact findClass_of_methodNamed B.named
    · have := B.noHandlers (hws _ List.mem_cons_self)
      simpa using this
    · rw [← hsz]
      exact zAr_ok hw
  have hlen : as.length ≤ zlocs m := by rw [has]; exact hk.2.2.2.2.2.2.1
  rw [ha, entry_eq m0 (as.map (zcv ad)) (fun v hv => by obtain ⟨w, -, rfl⟩ := List.mem_map.mp hv; exact zcv_cat ad w) (zlocs m), ← ha]
  have key := hc p e (zrm m mc ms) s m0 args below meth c (zAr ad t.2 sz) C ad s.heap [] 0 0 _ ⟨zent_ls hlen hok, (fun v hv => by cases hv), hw, fun k i hki => Or.inl ⟨k, i, hki, rfl⟩, va_S.rf⟩ (by rw [Nat.zero_add, ← hmc]; exact Nat.le_refl _) (by rw [Nat.zero_add, ← hms]; exact Nat.le_refl _)
  rw [Nat.zero_add, Nat.zero_add, ← hmc, ← hms] at key
  exact key
theorem zmetR {l : Launch} {D : va_G} {ty : Nat → ClassId} {m sz mc ms : Nat} {as : List zV} {t t1 : zT} {v : Option zV} {ad : zA} (htr : ∀ e, l.admits e → e.platform.stackTraces = false) (hm : m < 123) (hc : zCal l D ty m as t (.inl v) t1) (has : as.length = znar m) (hok : ∀ v ∈ as, zvok t.2 v = true) (hmc : mc = t1.2 - t.2) (hms : ms = 16 * (t1.2 - t.2)) :
    Met l (zyy m) (zws m) (zrm m mc ms) (zPc D ty ad t as sz) (fun _ st oc u => zQ D ty (zAr ad t.2 sz) ad t.2 (.inl v) t1 st oc u) mc ms (zAr ad t.2 sz) := by
  refine Met.ofW (cc := zbb m) (maxL := zlocs m) (ret := zrt m) (zm_ok hm).2.2.2.1 rfl ?_
  intro p e s m0 args below meth c s₁ B hml hP
  refine zW_mono (zbody (mc := mc) (ms := ms) htr hm hc has hok hmc hms B hml hP) fun u hu => ?_
  obtain ⟨oc, h1, h2, h3, L, h4, h5⟩ := hu
  refine ⟨oc, h1, h2, h3, L, ⟨?_, h4⟩, h5⟩
  obtain ⟨⟨ad', -, hr, -⟩, -⟩ := h3
  cases v with
  | none => exact ⟨_, hr⟩
  | some w => exact ⟨_, hr.1⟩
theorem zmetT {l : Launch} {D : va_G} {ty : Nat → ClassId} {m sz mc ms x : Nat} {as : List zV} {t t1 : zT} {ad : zA} (htr : ∀ e, l.admits e → e.platform.stackTraces = false) (hm : m < 123) (hc : zCal l D ty m as t (.inr x) t1) (has : as.length = znar m) (hok : ∀ v ∈ as, zvok t.2 v = true) (hmc : mc = t1.2 - t.2 + 1) (hms : ms = 16 * (t1.2 - t.2) + 6) :
    MetFree l (zyy m) (headSpec (zws m) (zrm m mc ms)) (zPc D ty ad t as sz) (fun _ _ _ _ _ => True) (zQT (fun st a u => zQ D ty (zAr ad t.2 sz) ad t.2 (.inr x) t1 st (.threw a) u) mc ms (fun _ _ => zAr ad t.2 sz)) := by
  refine MetFree.of_bodyS (code := zbb m) (maxLocals := zlocs m) (ret := zrt m) (zm_ok hm).2.2.2.1 ?_ ?_
  · intro args s m0 h hn
    obtain ⟨meth, c, h1, h2, h3, h4, h5, h6, -, -⟩ := Cond.code_spec hn (atoms_spec (ws := zws m) h _ List.mem_cons_self)
    exact ⟨meth, c, h1, h2, h3, h4, h5, h6⟩
  · intro p e s m0 args below meth c s₁ B hml hP _
    have hh0 : s₁.heap = s.heap := by rw [B.state]; rfl
    obtain ⟨u, a1, oc, b1, b2, b3, L, b4, b5⟩ := zbody (mc := mc) (ms := ms) (o := .inr x) htr hm hc has hok hmc hms B hml hP s₁ hh0 (Stand.of_body B)
    have b3' := b3
    obtain ⟨⟨ad', -, ⟨a, ce, hr, -⟩, -⟩, -⟩ := b3'
    rw [hr] at b2 b3
    exact ⟨u, .threw a, a1, b1, b2, ⟨a, rfl, b3⟩, L, b4, b5⟩
section ZC
variable {p : Program} {l : Launch} {e : Env} {R : Room} {s : State} {m0 : MethodId} {args : Array Value} {below : List Frame} {meth : Method} {c : Code} {D : va_G} {ty : Nat → ClassId} {A : Nat → Prop} {m pc : Nat} {ls : List (Option zV)} {st : List zV} {t t' t1 : zT} {o : zO}
theorem zA_sub {ad : zA} {H : Heap} {locs : List Loc} {lsA : Array Slot} (C : zCx p l e R s m0 args meth c D ty A m) (h : zRp D ty A s ad m ls st t H locs lsA) {q : Nat} (hq : zAr ad t.2 H.size q) : A q := by
  rcases hq with ⟨k, i, h1, h2⟩ | hq
  · rw [h2]
    exact h.2.2.2.1 k i h1
  · exact C.2.2.2.1 q (Nat.le_trans h.2.2.2.2.1 hq)
theorem zTh_at {H : Heap} {locs : List Loc} (C : zCx p l e R s m0 args meth c D ty A m) (hS : va_S A s.heap H locs) {U : State} (hU : U.heap = H) (hW : s.WarmedH U.vm) : zTh U :=
  C.2.2.1.2.2.2.1.moved hW fun q cell hq hst => by
    rw [hU, hS.2.1 q (Array.getElem?_eq_some_iff.mp hq).1 (C.2.2.2.2 q cell hq hst)]
    exact hq
theorem zPc_at {ad : zA} {H : Heap} {locs : List Loc} {lsA : Array Slot} {as : List zV} (C : zCx p l e R s m0 args meth c D ty A m) (h : zRp D ty A s ad m ls st t H locs lsA) {U : State} (hU : U.heap = H) (hW : s.WarmedH U.vm) : zPc D ty ad t as H.size (as.map (zcv ad)).toArray U :=
  ⟨rfl, by rw [hU], by rw [hU]; exact h.2.2.1, C.2.1.2.2.moved hW.alike, zTh_at C h.2.2.2.2 hU hW⟩
-- behind a callee's return
theorem zafter {ad : zA} {H : Heap} {locs : List Loc} {cells slots mc ms : Nat} {lsA : Array Slot} {v : Option zV} {rest : List zV} {a : Array Value} (C : zCx p l e R s m0 args meth c D ty A m) (h : zRp D ty A s ad m ls st t H locs lsA) (hrest : ∀ w ∈ rest, zvok t.2 w = true) (hm1 : t.2 ≤ t1.2) (hm2 : t1.2 ≤ t'.2) (hmc : mc = t1.2 - t.2) (hms : ms = 16 * (t1.2 - t.2))
    (hc : cells + (t'.2 - t.2) + zth o ≤ R.cells) (hs : slots + 16 * (t'.2 - t.2) + 6 * zth o ≤ R.slots)
    (hr : va_Run p l e R s m0 args below meth c H locs cells slots mc ms (F0 m0 pc lsA (st.map (zcv ad))) (rest.map (zcv ad)) ((fun _ st oc u => zQ D ty (zAr ad t.2 H.size) ad t.2 (.inl v) t1 st oc u) a) (zAr ad t.2 H.size))
    (kk : zOK p l e R s m0 args below meth c D ty A m (pc + 3) ls (zpush v rest) t1 o t') :
    W p l e R s m0 args below meth c H locs cells slots (zEnd D ty A s below ad t.2 o t' (cells + (t'.2 - t.2) + zth o) (slots + 16 * (t'.2 - t.2) + 6 * zth o)) (F0 m0 pc lsA (st.map (zcv ad))) := by
  intro T hT X
  obtain ⟨w, st₀, u, T', L, h0, X', hL, e1, e2, ⟨⟨ad', hx, hres, hw', hA'⟩, hF⟩, go⟩ := hr T hT X
  have hsub : ∀ q, zAr ad t.2 H.size q → A q := fun q hq => zA_sub C h hq
  have hS' : va_S A s.heap T'.heap (locs ++ L) := by
    have hS := h.2.2.2.2
    refine ⟨Nat.le_trans hS.1 (by rw [e1, ← h0]; exact hF.1), fun q h1 h2 => ?_, fun q hq => ?_⟩
    · have hq : q < H.size := Nat.lt_of_lt_of_le h1 hS.1
      rw [e1, hF.2 q (by rw [h0]; exact hq) (fun z => h2 (hsub q z)), h0]
      exact hS.2.1 q h1 h2
    · rcases List.mem_append.mp hq with hq | hq
      · exact hS.2.2 q hq
      · exact hsub _ (hL q hq)
  have hrest' : ∀ w ∈ rest, zvok t1.2 w = true := fun w hw => zvok_mono hm1 (hrest w hw)
  have hpush : (∀ w ∈ zpush v rest, zvok t1.2 w = true) ∧ w.toList ++ rest.map (zcv ad) = (zpush v rest).map (zcv ad') := by
    have e3 := zmap_ext hx hrest
    cases v with
    | none =>
      have hres : Outcome.returned w = .returned none := hres
      cases hres
      exact ⟨hrest', e3.symm⟩
    | some v0 =>
      obtain ⟨hr1, hr2⟩ := hres
      cases hr1
      refine ⟨zall_c hr2 hrest', ?_⟩
      simp only [Option.toList_some, List.cons_append, List.nil_append, zpush, List.map_cons, e3]
  have k2 := kk ad' T'.heap (locs ++ L) (cells + mc) (slots + ms) lsA ⟨zLs_ext h.1 hx hm1, hpush.1, by rw [e1]; exact hw', fun k i hki => hsub _ (hA' k i hki), hS'⟩ (by omega) (by omega) T' rfl X'
  obtain ⟨u2, g1, oc, g2, g3, ⟨⟨ad2, g4, g5, g6, g7⟩, g8⟩, L2, g9, g10⟩ := k2
  rw [← hpush.2] at g1
  refine ⟨u2, go u2 g1, oc, g2, g3, ⟨⟨ad2, hx.trans hm1 g4, g5, g6, g7⟩, g8⟩, L2, ?_, g10⟩
  rw [show cells + (t'.2 - t.2) + zth o = cells + mc + (t'.2 - t1.2) + zth o by omega, show slots + 16 * (t'.2 - t.2) + 6 * zth o = slots + ms + 16 * (t'.2 - t1.2) + 6 * zth o by omega]
  exact g9
theorem zCB {mc ms n m' : Nat} (C : zCx p l e R s m0 args meth c D ty A m) (ho : zown m < 8) (hm' : m' < 123) (hl : Cond.methodLink (zRn (zown m)) n (zyy m') ∈ zWS) (hf : zFr m' + 1 ≤ zFr m) (hw : 8 + (zlocs m' + 11) + zLo m' ≤ zLo m) {k : Nat} (hk : zpar (zyy m') = some k) : CallB R s args (zRn (zown m)) n (zyy m') (zbb m') (zlocs m') (zrt m') (zws m') (zrm m' mc ms) mc ms k := by
  have h := zm_ok hm'
  have hall : ∀ w ∈ zws m', ∀ (a' : Array Value) (U : State), s.WarmedH U.vm → w.before a' U = true := by
    intro w hw a' U hW
    rcases List.mem_cons.mp hw with rfl | hw
    · exact zword hW (zWS_good h.1) (C.2.1.2.1 _ h.1)
    · exact zword hW (zWS_good hw) (C.2.1.2.1 _ hw)
  have hfr := C.2.2.1.2.1
  have hlo := C.2.2.1.2.2.1
  refine ⟨rfl, rfl, Nat.le_trans hf hfr, Nat.le_trans hw hlo, hall, List.mem_cons_self, C.2.1.2.1 _ h.1, C.2.1.2.1 _ h.2.1, h.2.2.2.2.1, fun sig hs => ?_, C.2.1.2.1 _ hl⟩
  unfold zpar at hk
  rw [hs] at hk
  exact (Option.some.inj hk).symm
theorem zsplit {as rest : List zV} {n : Nat} {ad : zA} (hn : n ≤ st.length) (ha : as = (st.take n).reverse) (hr : rest = st.drop n) : st.map (zcv ad) = (as.map (zcv ad)).reverse ++ rest.map (zcv ad) := by
  rw [ha, hr, List.map_reverse, List.reverse_reverse, ← List.map_append, List.take_append_drop]
theorem zs_callS {as rest : List zV} {n k m' : Nat} {v : Option zV} (htr : ∀ e, l.admits e → e.platform.stackTraces = false) (C : zCx p l e R s m0 args meth c D ty A m) (ho : zown m < 8) (hz : zcal (zown m) n = some (m', k)) (h9 : m' ≠ 999) (hst : zstat m' = true) (hn : k ≤ st.length) (hn8 : st.length ≤ k + 8) (ha : as = (st.take k).reverse) (hr : rest = st.drop k)
    (hf : zFr m' + 1 ≤ zFr m) (hw : 8 + (zlocs m' + 11) + zLo m' ≤ zLo m) (hd : decode (zbb m) pc = .ok (.invokestatic n, 3)) (hm1 : t.2 ≤ t1.2) (hm2 : t1.2 ≤ t'.2) (hcal : zCal l D ty m' as t (.inl v) t1) (kk : zOK p l e R s m0 args below meth c D ty A m (pc + 3) ls (zpush v rest) t1 o t') : zOK p l e R s m0 args below meth c D ty A m pc ls st t o t' := by
  intro ad H locs cells slots lsA h hc hs
  obtain ⟨hm', hl, hna⟩ := zcal_ok ho hz h9
  have hk := zm_ok hm'
  obtain ⟨k0, hk0⟩ := hk.2.2.2.2.2.1
  have hok : ∀ v ∈ as, zvok t.2 v = true := fun w hw => h.2.1 w (by rw [ha] at hw; exact List.mem_of_mem_take (List.mem_reverse.mp hw))
  have hrok : ∀ v ∈ rest, zvok t.2 v = true := fun w hw => h.2.1 w (by rw [hr] at hw; exact List.mem_of_mem_drop hw)
  have hlen : as.length = k := by rw [ha, List.length_reverse, List.length_take]; omega
  have hk1 : k0 = k := by
    unfold znar at hna
    rw [hst, hk0] at hna
    simpa using hna
  refine zafter (mc := t1.2 - t.2) (ms := 16 * (t1.2 - t.2)) (rest := rest) (v := v) (a := (as.map (zcv ad)).toArray) C h hrok hm1 hm2 rfl rfl hc hs ?_ kk
  exact va_runS (cc := zbb m) (nL := zlocs m) (Ts := zWS) (own := zRn (zown m)) (As := as.map (zcv ad)) ⟨C.1.1, C.1.2.1, C.1.2.2.1, C.2.1.1, C.2.1.2.1⟩ (zmetR (sz := H.size) (ad := ad) htr hm' hcal (by rw [hlen, hna]) hok rfl rfl) ⟨zCB C ho hm' hl hf hw hk0, C.2.1.2.1 _ (hk.2.2.2.2.2.2.2.2.1 hst)⟩ ⟨zPc_blind _ _ _ _ _ _, fun U hU hW => zPc_at C h hU hW⟩ rfl (by rw [List.length_map, hlen, hk1]) h.1.2.1 (zsplit hn ha hr)
    (by show 2 * 0 + _ ≤ 8; rw [zsum, hr, List.length_drop]; omega) hd ⟨by omega, by omega⟩
theorem zs_callV {as rest : List zV} {n k m' : Nat} {v : Option zV} (htr : ∀ e, l.admits e → e.platform.stackTraces = false) (C : zCx p l e R s m0 args meth c D ty A m) (ho : zown m < 8) (hz : zcal (zown m) n = some (m', k)) (h9 : m' ≠ 999) (hst : zstat m' = false) (hrv : zrecv m' as = true) (hn : k ≤ st.length) (hn8 : st.length ≤ k + 8) (ha : as = (st.take k).reverse) (hr : rest = st.drop k)
    (hf : zFr m' + 1 ≤ zFr m) (hw : 8 + (zlocs m' + 11) + zLo m' ≤ zLo m) (hd : decode (zbb m) pc = .ok (.invokevirtual n, 3)) (hm1 : t.2 ≤ t1.2) (hm2 : t1.2 ≤ t'.2) (hcal : zCal l D ty m' as t (.inl v) t1) (kk : zOK p l e R s m0 args below meth c D ty A m (pc + 3) ls (zpush v rest) t1 o t') : zOK p l e R s m0 args below meth c D ty A m pc ls st t o t' := by
  intro ad H locs cells slots lsA h hc hs
  obtain ⟨hm', hl, hna⟩ := zcal_ok ho hz h9
  have hk := zm_ok hm'
  obtain ⟨k0, hk0⟩ := hk.2.2.2.2.2.1
  have hok : ∀ v ∈ as, zvok t.2 v = true := fun w hw => h.2.1 w (by rw [ha] at hw; exact List.mem_of_mem_take (List.mem_reverse.mp hw))
  have hrok : ∀ v ∈ rest, zvok t.2 v = true := fun w hw => h.2.1 w (by rw [hr] at hw; exact List.mem_of_mem_drop hw)
  have hlen : as.length = k := by rw [ha, List.length_reverse, List.length_take]; omega
  have hk1 : k0 + 1 = k := by
    unfold znar at hna
    rw [hst, hk0] at hna
    simpa using hna
  have hsp : st.map (zcv ad) = (as.map (zcv ad)).reverse ++ rest.map (zcv ad) := zsplit hn ha hr
  refine zafter (mc := t1.2 - t.2) (ms := 16 * (t1.2 - t.2)) (rest := rest) (v := v) (a := (as.map (zcv ad)).toArray) C h hrok hm1 hm2 rfl rfl hc hs ?_ kk
  match as, hrv, hok, hlen, hsp, hcal with
  | .inr (some (kk0, i)) :: as', hrv, hok, hlen, hsp, hcal =>
    obtain ⟨fs, hkind⟩ := zcls_ok hrv
    obtain ⟨L, hL⟩ := h.2.2.1
    have hv : zok t.2 kk0 i = true := zall_h hok
    obtain ⟨q0, hq⟩ := hL.pos hv
    obtain ⟨-, r, hr1, -⟩ := zkind_o hkind
    have hrec := va_recv (a := ad kk0 i) C.2.1.2.2 hL.2.2.1 hr1 (q0 := q0) (fs := zenF ad t.1 kk0 i fs) (by rw [zl_get hq, zenc_o hkind])
    have hrn : r.1 = (zyy m').cls := by
      rw [hk.2.2.1]
      unfold zRn
      rw [List.getD_eq_getElem?_getD, hr1]
      rfl
    rw [hrn] at hrec
    exact va_runV (cc := zbb m) (nL := zlocs m) (Ts := zWS) (own := zRn (zown m)) (C := (zyy m').cls) (b := ad kk0 i) (As := as'.map (zcv ad)) ⟨C.1.1, C.1.2.1, C.1.2.2.1, C.2.1.1, C.2.1.2.1⟩ (zmetR (sz := H.size) (ad := ad) htr hm' hcal (by rw [hlen, hna]) hok rfl rfl)
      ⟨zCB C ho hm' hl hf hw hk0, C.2.1.2.1 _ (hk.2.2.2.2.2.2.2.2.2 hst).1, C.2.1.2.1 _ (hk.2.2.2.2.2.2.2.2.2 hst).2⟩ ⟨zPc_blind _ _ _ _ _ _, hrec, fun U hU hW => zPc_at (as := .inr (some (kk0, i)) :: as') C h hU hW⟩ rfl (by rw [List.length_map]; simp only [List.length_cons] at hlen; omega) h.1.2.1 (by show st.map (zcv ad) = _; rw [hsp]; simp [zcv])
      (by show 2 * 0 + _ ≤ 8; rw [zsum, hr, List.length_drop]; omega) hd ⟨by omega, by omega⟩
end ZC
