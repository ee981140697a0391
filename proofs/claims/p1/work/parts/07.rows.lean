/-! One instruction of the small machine is one of the machine's. -/
def zLs (ad : zA) (md : Nat) (ls : List (Option zV)) (lsA : Array Slot) (nL : Nat) : Prop := ls.length = nL ∧ lsA.size = nL ∧ lv_wf lsA ∧ ∀ (i : Nat) (v : zV), ls[i]? = some (some v) → zvok md v = true ∧ lsA[i]? = some (.val (zcv ad v))
theorem zld_some {ls : List (Option zV)} {i : Nat} {v : zV} (h : zld ls i = some v) : ls[i]? = some (some v) := by
  unfold zld at h
  split at h
  · rename_i w hw
    rw [hw, Option.some.inj h]
  · cases h
def zlv (ad : zA) (ls : List (Option zV)) : List (Nat × Value) := (List.range ls.length).filterMap (fun i => (zld ls i).map (fun v => (i, zcv ad v)))
theorem zlv_mem {ad : zA} {ls : List (Option zV)} {i : Nat} {v : zV} (h : ls[i]? = some (some v)) : (i, zcv ad v) ∈ zlv ad ls := by
  refine List.mem_filterMap.mpr ⟨i, List.mem_range.mpr (List.getElem?_eq_some_iff.mp h).1, ?_⟩
  have h1 : zld ls i = some v := by
    unfold zld
    rw [h]
  rw [h1]
  rfl
theorem zLs_has {ad : zA} {md nL : Nat} {ls : List (Option zV)} {lsA : Array Slot} (h : zLs ad md ls lsA nL) : lv_has lsA nL (zlv ad ls) := by
  refine ⟨h.2.1, h.2.2.1, fun q hq => ?_⟩
  obtain ⟨i, -, hi⟩ := List.mem_filterMap.mp hq
  cases hz : zld ls i with
  | none => rw [hz] at hi; cases hi
  | some v =>
    rw [hz] at hi
    have e := Option.some.inj hi
    rw [← e]
    exact (h.2.2.2 i v (zld_some hz)).2
theorem zLs_set {ad : zA} {md nL i : Nat} {ls : List (Option zV)} {lsA ls' : Array Slot} {v : zV} (h : zLs ad md ls lsA nL) (hv : zvok md v = true)
    (h' : lv_has ls' nL ((i, zcv ad v) :: (zlv ad ls).filter (fun q => !(q.1 == i) && !(q.1 + 1 == i && q.2.category == 2)))) : zLs ad md (ls.set i (some v)) ls' nL := by
  refine ⟨by rw [List.length_set]; exact h.1, h'.1, h'.2.1, fun j w hw => ?_⟩
  by_cases hj : j = i
  · subst hj
    have hl : j < (ls.set j (some v)).length := (List.getElem?_eq_some_iff.mp hw).1
    rw [List.length_set] at hl
    rw [List.getElem?_set_self hl] at hw
    cases hw
    exact ⟨hv, h'.2.2 (j, zcv ad v) List.mem_cons_self⟩
  · rw [List.getElem?_set_ne (Ne.symm hj)] at hw
    refine ⟨(h.2.2.2 j w hw).1, h'.2.2 (j, zcv ad w) (List.mem_cons_of_mem _ (List.mem_filter.mpr ⟨zlv_mem hw, ?_⟩))⟩
    simp [hj, zcv_cat]
theorem zLs_ext {ad ad' : zA} {md md' nL : Nat} {ls : List (Option zV)} {lsA : Array Slot} (h : zLs ad md ls lsA nL) (he : zExt ad ad' md) (hm : md ≤ md') : zLs ad' md' ls lsA nL :=
  ⟨h.1, h.2.1, h.2.2.1, fun i v hi => ⟨zvok_mono hm (h.2.2.2 i v hi).1, by rw [zcv_ext he (h.2.2.2 i v hi).1]; exact (h.2.2.2 i v hi).2⟩⟩
def zAok (A : Nat → Prop) (s : State) : Prop := (∀ q, s.heap.size ≤ q → A q) ∧ ∀ (q : Nat) (cell : Cell), s.heap[q]? = some cell → cell.vm.isStatics = true → ¬ A q
-- what the state says beside the tables' words
def zTh (U : State) : Prop := va_Nw znest U ∧ ∀ w ∈ zthW, w.before #[] U = true
def zCx (p : Program) (l : Launch) (e : Env) (R : Room) (s : State) (m0 : MethodId) (args : Array Value) (meth : Method) (c : Code) (D : va_G) (ty : Nat → ClassId) (A : Nat → Prop) (m : Nat) : Prop :=
  (p.tables.exec = Jvm.exec ∧ c.code = zbb m ∧ c.maxLocals = zlocs m ∧ meth.sig.returnType = zrt m ∧ meth.locks = false) ∧ (s.vm.findClass (zRn (zown m)) = some m0.cls ∧ (∀ w ∈ zWS, w.before args s = true) ∧ va_K D zcl (ztys ty) s) ∧
  (c.exceptionTable.toList = [] ∧ zFr m ≤ R.frames ∧ zLo m ≤ R.locals ∧ zTh s ∧ e.platform.stackTraces = false) ∧ zAok A s
def zRp (D : va_G) (ty : Nat → ClassId) (A : Nat → Prop) (s : State) (ad : zA) (m : Nat) (ls : List (Option zV)) (st : List zV) (t : zT) (H : Heap) (locs : List Loc) (lsA : Array Slot) : Prop :=
  zLs ad t.2 ls lsA (zlocs m) ∧ (∀ v ∈ st, zvok t.2 v = true) ∧ zW D ty ad t H ∧ (∀ k i, zok t.2 k i = true → A (ad k i)) ∧ va_S A s.heap H locs
def zres (ad : zA) (md : Nat) (o : zO) (oc : Outcome) (st u : State) : Prop := match o with
  | .inl none => oc = .returned none
  | .inl (some v) => oc = .returned (some (zcv ad v)) ∧ zvok md v = true
  | .inr x => ∃ (a : Nat) (ce : Cell), oc = .threw a ∧ u.heap[a]? = some ce ∧ st.vm.findClass (zxn x) = some ce.cls ∧ ce.vm = .none
def zQ (D : va_G) (ty : Nat → ClassId) (A : Nat → Prop) (ad : zA) (md : Nat) (o : zO) (t' : zT) (st : State) (oc : Outcome) (u : State) : Prop :=
  (∃ ad' : zA, zExt ad ad' md ∧ zres ad' t'.2 o oc st u ∧ zW D ty ad' t' u.heap ∧ ∀ k i, zok t'.2 k i = true → A (ad' k i)) ∧ va_F A st u
def zEnd (D : va_G) (ty : Nat → ClassId) (A : Nat → Prop) (s : State) (below : List Frame) (ad : zA) (md : Nat) (o : zO) (t' : zT) (mc ms : Nat) : State → Prop := fun u => ∃ oc, u.status = .running ∧ Ended u below oc ∧ zQ D ty A ad md o t' s oc u ∧ ∃ L, zFE s u L mc ms ∧ ∀ q ∈ L, A q.base
def zth (o : zO) : Nat := match o with
  | .inl _ => 0
  | .inr _ => 1
def zOK (p : Program) (l : Launch) (e : Env) (R : Room) (s : State) (m0 : MethodId) (args : Array Value) (below : List Frame) (meth : Method) (c : Code) (D : va_G) (ty : Nat → ClassId) (A : Nat → Prop) (m pc : Nat) (ls : List (Option zV)) (st : List zV) (t : zT) (o : zO) (t' : zT) : Prop :=
  ∀ (ad : zA) (H : Heap) (locs : List Loc) (cells slots : Nat) (lsA : Array Slot), zRp D ty A s ad m ls st t H locs lsA → cells + (t'.2 - t.2) + zth o ≤ R.cells → slots + 16 * (t'.2 - t.2) + 6 * zth o ≤ R.slots →
    W p l e R s m0 args below meth c H locs cells slots (zEnd D ty A s below ad t.2 o t' (cells + (t'.2 - t.2) + zth o) (slots + 16 * (t'.2 - t.2) + 6 * zth o)) (F0 m0 pc lsA (st.map (zcv ad)))
theorem zRp.st {D : va_G} {ty : Nat → ClassId} {A : Nat → Prop} {s : State} {ad : zA} {m : Nat} {ls : List (Option zV)} {st st' : List zV} {t : zT} {H : Heap} {locs : List Loc} {lsA : Array Slot} (h : zRp D ty A s ad m ls st t H locs lsA) (h' : ∀ v ∈ st', zvok t.2 v = true) : zRp D ty A s ad m ls st' t H locs lsA := ⟨h.1, h', h.2.2⟩
theorem zRp.ls {D : va_G} {ty : Nat → ClassId} {A : Nat → Prop} {s : State} {ad : zA} {m : Nat} {ls ls' : List (Option zV)} {st st' : List zV} {t : zT} {H : Heap} {locs : List Loc} {lsA lsA' : Array Slot} (h : zRp D ty A s ad m ls st t H locs lsA) (hl : zLs ad t.2 ls' lsA' (zlocs m)) (h' : ∀ v ∈ st', zvok t.2 v = true) : zRp D ty A s ad m ls' st' t H locs lsA' := ⟨hl, h', h.2.2⟩
theorem zall_c {md : Nat} {v : zV} {st : List zV} (hv : zvok md v = true) (h : ∀ w ∈ st, zvok md w = true) : ∀ w ∈ v :: st, zvok md w = true := by
  intro w hw
  rcases List.mem_cons.mp hw with rfl | hw
  · exact hv
  · exact h w hw
theorem zall_t {md : Nat} {v : zV} {st : List zV} (h : ∀ w ∈ v :: st, zvok md w = true) : ∀ w ∈ st, zvok md w = true := fun w hw => h w (List.mem_cons_of_mem _ hw)
theorem zall_h {md : Nat} {v : zV} {st : List zV} (h : ∀ w ∈ v :: st, zvok md w = true) : zvok md v = true := h v List.mem_cons_self
theorem zint_ok (n : Int) : Int32.ofInt n = zint n := by
  cases n with
  | ofNat k => exact Int32.ofInt_eq_ofNat
  | negSucc k => rfl
theorem zbip_ok : ∀ n : Nat, n < 128 → (Int8.ofInt (Int.ofNat n)).toInt32 = nI n := by decide +kernel
theorem zsip_ok {n : Nat} (h : n < 32768) : (Int16.ofInt (Int.ofNat n)).toInt32 = nI n := by
  apply Int32.toInt_inj.mp
  rw [nI_toInt (by omega), Int16.toInt_toInt32, Int16.toInt_ofInt]
  rw [show Int16.size = 65536 from rfl]
  exact Int.bmod_eq_of_le (by simp only [Int.ofNat_eq_natCast]; omega) (by simp only [Int.ofNat_eq_natCast]; omega)
theorem ztgt_ok {pc : Nat} {off : Int} (h : 0 ≤ (pc : Int) + off) : (pc : Int) + off = ((ztgt pc off : Nat) : Int) := by
  unfold ztgt
  rw [Int.toNat_of_nonneg h]
theorem zin_ok {x : Int32} {n : Nat} (h : zin x n = true) : vp_in x n := by
  unfold zin at h
  simpa [vp_in] using h
section ZR
variable {p : Program} {l : Launch} {e : Env} {R : Room} {s : State} {m0 : MethodId} {args : Array Value} {below : List Frame} {meth : Method} {c : Code} {D : va_G} {ty : Nat → ClassId} {A : Nat → Prop} {m pc : Nat} {ls : List (Option zV)} {st : List zV} {t t' : zT} {o : zO}
theorem zs_int (C : zCx p l e R s m0 args meth c D ty A m) {n : Int} (hd : decode (zbb m) pc = .ok (.iconst n, 1)) (k : zOK p l e R s m0 args below meth c D ty A m (pc + 1) ls (.inl (zint n) :: st) t o t') : zOK p l e R s m0 args below meth c D ty A m pc ls st t o t' :=
  fun ad H locs cells slots lsA h hc hs => lv_iconst C.1.1 C.1.2.1 hd (zint_ok n) (k ad H locs cells slots lsA (h.st (zall_c rfl h.2.1)) hc hs)
theorem zs_bip (C : zCx p l e R s m0 args meth c D ty A m) {n : Nat} (hn : n < 128) (hd : decode (zbb m) pc = .ok (.bipush (Int.ofNat n), 2)) (k : zOK p l e R s m0 args below meth c D ty A m (pc + 2) ls (.inl (nI n) :: st) t o t') : zOK p l e R s m0 args below meth c D ty A m pc ls st t o t' :=
  fun ad H locs cells slots lsA h hc hs => lv_bipush C.1.1 C.1.2.1 hd (zbip_ok n hn) (k ad H locs cells slots lsA (h.st (zall_c rfl h.2.1)) hc hs)
theorem zs_sip (C : zCx p l e R s m0 args meth c D ty A m) {n : Nat} (hn : n < 32768) (hd : decode (zbb m) pc = .ok (.sipush (Int.ofNat n), 3)) (k : zOK p l e R s m0 args below meth c D ty A m (pc + 3) ls (.inl (nI n) :: st) t o t') : zOK p l e R s m0 args below meth c D ty A m pc ls st t o t' :=
  fun ad H locs cells slots lsA h hc hs => lv_sipush C.1.1 C.1.2.1 hd (zsip_ok hn) (k ad H locs cells slots lsA (h.st (zall_c rfl h.2.1)) hc hs)
theorem zs_il (C : zCx p l e R s m0 args meth c D ty A m) {i : Nat} {x : Int32} (hz : zld ls i = some (.inl x)) (hd : decode (zbb m) pc = .ok (.iload i, 2)) (k : zOK p l e R s m0 args below meth c D ty A m (pc + 2) ls (.inl x :: st) t o t') : zOK p l e R s m0 args below meth c D ty A m pc ls st t o t' :=
  fun ad H locs cells slots lsA h hc hs => lv_iload C.1.1 C.1.2.1 hd (h.1.2.2.2 i _ (zld_some hz)).2 (k ad H locs cells slots lsA (h.st (zall_c rfl h.2.1)) hc hs)
theorem zs_iln (C : zCx p l e R s m0 args meth c D ty A m) {i : Fin 4} {x : Int32} (hz : zld ls i.val = some (.inl x)) (hd : decode (zbb m) pc = .ok (.iload_n i, 1)) (k : zOK p l e R s m0 args below meth c D ty A m (pc + 1) ls (.inl x :: st) t o t') : zOK p l e R s m0 args below meth c D ty A m pc ls st t o t' :=
  fun ad H locs cells slots lsA h hc hs => lv_iload_n C.1.1 C.1.2.1 hd rfl (h.1.2.2.2 i.val _ (zld_some hz)).2 (k ad H locs cells slots lsA (h.st (zall_c rfl h.2.1)) hc hs)
theorem zs_al (C : zCx p l e R s m0 args meth c D ty A m) {i : Nat} {r : Nat × Nat} (hz : zld ls i = some (.inr (some r))) (hd : decode (zbb m) pc = .ok (.aload i, 2)) (k : zOK p l e R s m0 args below meth c D ty A m (pc + 2) ls (.inr (some r) :: st) t o t') : zOK p l e R s m0 args below meth c D ty A m pc ls st t o t' :=
  fun ad H locs cells slots lsA h hc hs => lv_aload C.1.1 C.1.2.1 hd (h.1.2.2.2 i _ (zld_some hz)).2 (k ad H locs cells slots lsA (h.st (zall_c (h.1.2.2.2 i _ (zld_some hz)).1 h.2.1)) hc hs)
theorem zs_aln (C : zCx p l e R s m0 args meth c D ty A m) {i : Fin 4} {r : Nat × Nat} (hz : zld ls i.val = some (.inr (some r))) (hd : decode (zbb m) pc = .ok (.aload_n i, 1)) (k : zOK p l e R s m0 args below meth c D ty A m (pc + 1) ls (.inr (some r) :: st) t o t') : zOK p l e R s m0 args below meth c D ty A m pc ls st t o t' :=
  fun ad H locs cells slots lsA h hc hs => lv_aload_n C.1.1 C.1.2.1 hd rfl (h.1.2.2.2 i.val _ (zld_some hz)).2 (k ad H locs cells slots lsA (h.st (zall_c (h.1.2.2.2 i.val _ (zld_some hz)).1 h.2.1)) hc hs)
theorem zs_is (C : zCx p l e R s m0 args meth c D ty A m) {i : Nat} {x : Int32} (hi : i < ls.length) (hd : decode (zbb m) pc = .ok (.istore i, 2)) (k : zOK p l e R s m0 args below meth c D ty A m (pc + 2) (ls.set i (some (.inl x))) st t o t') : zOK p l e R s m0 args below meth c D ty A m pc ls (.inl x :: st) t o t' :=
  fun ad H locs cells slots lsA h hc hs => lv_istore C.1.1 C.1.2.1 hd (zLs_has h.1) (by rw [← h.1.1]; exact hi) rfl fun ls' h' => k ad H locs cells slots ls' (h.ls (zLs_set h.1 rfl h') (zall_t h.2.1)) hc hs
theorem zs_isn (C : zCx p l e R s m0 args meth c D ty A m) {i : Fin 4} {x : Int32} (hi : i.val < ls.length) (hd : decode (zbb m) pc = .ok (.istore_n i, 1)) (k : zOK p l e R s m0 args below meth c D ty A m (pc + 1) (ls.set i.val (some (.inl x))) st t o t') : zOK p l e R s m0 args below meth c D ty A m pc ls (.inl x :: st) t o t' :=
  fun ad H locs cells slots lsA h hc hs => lv_istore_n C.1.1 C.1.2.1 hd rfl (zLs_has h.1) (by rw [← h.1.1]; exact hi) rfl fun ls' h' => k ad H locs cells slots ls' (h.ls (zLs_set h.1 rfl h') (zall_t h.2.1)) hc hs
theorem zs_as (C : zCx p l e R s m0 args meth c D ty A m) {i : Nat} {r : Nat × Nat} (hi : i < ls.length) (hd : decode (zbb m) pc = .ok (.astore i, 2)) (k : zOK p l e R s m0 args below meth c D ty A m (pc + 2) (ls.set i (some (.inr (some r)))) st t o t') : zOK p l e R s m0 args below meth c D ty A m pc ls (.inr (some r) :: st) t o t' :=
  fun ad H locs cells slots lsA h hc hs => lv_astore C.1.1 C.1.2.1 hd (zLs_has h.1) (by rw [← h.1.1]; exact hi) rfl fun ls' h' => k ad H locs cells slots ls' (h.ls (zLs_set (v := .inr (some r)) h.1 (zall_h h.2.1) h') (zall_t h.2.1)) hc hs
theorem zs_asn (C : zCx p l e R s m0 args meth c D ty A m) {i : Fin 4} {r : Nat × Nat} (hi : i.val < ls.length) (hd : decode (zbb m) pc = .ok (.astore_n i, 1)) (k : zOK p l e R s m0 args below meth c D ty A m (pc + 1) (ls.set i.val (some (.inr (some r)))) st t o t') : zOK p l e R s m0 args below meth c D ty A m pc ls (.inr (some r) :: st) t o t' :=
  fun ad H locs cells slots lsA h hc hs => lv_astore_n C.1.1 C.1.2.1 hd rfl (zLs_has h.1) (by rw [← h.1.1]; exact hi) rfl fun ls' h' => k ad H locs cells slots ls' (h.ls (zLs_set (v := .inr (some r)) h.1 (zall_h h.2.1) h') (zall_t h.2.1)) hc hs
theorem zs_inc (C : zCx p l e R s m0 args meth c D ty A m) {i : Nat} {n : Int} {x : Int32} (hi : i < ls.length) (hz : zld ls i = some (.inl x)) (hd : decode (zbb m) pc = .ok (.iinc i n, 3)) (k : zOK p l e R s m0 args below meth c D ty A m (pc + 3) (ls.set i (some (.inl (x + zint n)))) st t o t') : zOK p l e R s m0 args below meth c D ty A m pc ls st t o t' := by
  intro ad H locs cells slots lsA h hc hs
  obtain ⟨q, hq⟩ := List.getElem?_of_mem (zlv_mem (ad := ad) (zld_some hz))
  exact lv_iinc C.1.1 C.1.2.1 hd (zLs_has h.1) hq (by rw [zint_ok]) (by rw [← h.1.1]; exact hi) rfl fun ls' h' => k ad H locs cells slots ls' (h.ls (zLs_set (v := .inl (x + zint n)) h.1 rfl h') h.2.1) hc hs
theorem zs_dup (C : zCx p l e R s m0 args meth c D ty A m) {a : zV} (hd : decode (zbb m) pc = .ok (.dup, 1)) (k : zOK p l e R s m0 args below meth c D ty A m (pc + 1) ls (a :: a :: st) t o t') : zOK p l e R s m0 args below meth c D ty A m pc ls (a :: st) t o t' :=
  fun ad H locs cells slots lsA h hc hs => lv_dup C.1.1 C.1.2.1 hd (zcv_cat ad a) (k ad H locs cells slots lsA (h.st (zall_c (zall_h h.2.1) h.2.1)) hc hs)
theorem zs_pop (C : zCx p l e R s m0 args meth c D ty A m) {a : zV} (hd : decode (zbb m) pc = .ok (.pop, 1)) (k : zOK p l e R s m0 args below meth c D ty A m (pc + 1) ls st t o t') : zOK p l e R s m0 args below meth c D ty A m pc ls (a :: st) t o t' :=
  fun ad H locs cells slots lsA h hc hs => lv_pop C.1.1 C.1.2.1 hd (zcv_cat ad a) (k ad H locs cells slots lsA (h.st (zall_t h.2.1)) hc hs)
theorem zs_dx1 (C : zCx p l e R s m0 args meth c D ty A m) {a b : zV} (hd : decode (zbb m) pc = .ok (.dup_x1, 1)) (k : zOK p l e R s m0 args below meth c D ty A m (pc + 1) ls (a :: b :: a :: st) t o t') : zOK p l e R s m0 args below meth c D ty A m pc ls (a :: b :: st) t o t' :=
  fun ad H locs cells slots lsA h hc hs => lv_dup_x1 C.1.1 C.1.2.1 hd (zcv_cat ad a) (zcv_cat ad b) (k ad H locs cells slots lsA (h.st (zall_c (zall_h h.2.1) (zall_c (zall_h (zall_t h.2.1)) (zall_c (zall_h h.2.1) (zall_t (zall_t h.2.1)))))) hc hs)
theorem zs_d2 (C : zCx p l e R s m0 args meth c D ty A m) {a b : zV} (hd : decode (zbb m) pc = .ok (.dup2, 1)) (k : zOK p l e R s m0 args below meth c D ty A m (pc + 1) ls (a :: b :: a :: b :: st) t o t') : zOK p l e R s m0 args below meth c D ty A m pc ls (a :: b :: st) t o t' :=
  fun ad H locs cells slots lsA h hc hs => lv_dup2_11 C.1.1 C.1.2.1 hd (zcv_cat ad a) (zcv_cat ad b) (k ad H locs cells slots lsA (h.st (zall_c (zall_h h.2.1) (zall_c (zall_h (zall_t h.2.1)) h.2.1))) hc hs)
theorem zs_add (C : zCx p l e R s m0 args meth c D ty A m) {x y : Int32} (hd : decode (zbb m) pc = .ok (.iadd, 1)) (k : zOK p l e R s m0 args below meth c D ty A m (pc + 1) ls (.inl (x + y) :: st) t o t') : zOK p l e R s m0 args below meth c D ty A m pc ls (.inl y :: .inl x :: st) t o t' :=
  fun ad H locs cells slots lsA h hc hs => lv_iadd C.1.1 C.1.2.1 hd (k ad H locs cells slots lsA (h.st (zall_c rfl (zall_t (zall_t h.2.1)))) hc hs)
theorem zs_sub (C : zCx p l e R s m0 args meth c D ty A m) {x y : Int32} (hd : decode (zbb m) pc = .ok (.isub, 1)) (k : zOK p l e R s m0 args below meth c D ty A m (pc + 1) ls (.inl (x - y) :: st) t o t') : zOK p l e R s m0 args below meth c D ty A m pc ls (.inl y :: .inl x :: st) t o t' :=
  fun ad H locs cells slots lsA h hc hs => lv_isub C.1.1 C.1.2.1 hd (k ad H locs cells slots lsA (h.st (zall_c rfl (zall_t (zall_t h.2.1)))) hc hs)
theorem zs_mul (C : zCx p l e R s m0 args meth c D ty A m) {x y : Int32} (hd : decode (zbb m) pc = .ok (.imul, 1)) (k : zOK p l e R s m0 args below meth c D ty A m (pc + 1) ls (.inl (x * y) :: st) t o t') : zOK p l e R s m0 args below meth c D ty A m pc ls (.inl y :: .inl x :: st) t o t' :=
  fun ad H locs cells slots lsA h hc hs => lv_imul C.1.1 C.1.2.1 hd (k ad H locs cells slots lsA (h.st (zall_c rfl (zall_t (zall_t h.2.1)))) hc hs)
theorem zs_div (C : zCx p l e R s m0 args meth c D ty A m) {x y : Int32} (hy : ¬ y = 0) (hd : decode (zbb m) pc = .ok (.idiv, 1)) (k : zOK p l e R s m0 args below meth c D ty A m (pc + 1) ls (.inl (x / y) :: st) t o t') : zOK p l e R s m0 args below meth c D ty A m pc ls (.inl y :: .inl x :: st) t o t' :=
  fun ad H locs cells slots lsA h hc hs => lv_idiv C.1.1 C.1.2.1 hd hy (k ad H locs cells slots lsA (h.st (zall_c rfl (zall_t (zall_t h.2.1)))) hc hs)
theorem zs_rem (C : zCx p l e R s m0 args meth c D ty A m) {x y : Int32} (hy : ¬ y = 0) (hd : decode (zbb m) pc = .ok (.irem, 1)) (k : zOK p l e R s m0 args below meth c D ty A m (pc + 1) ls (.inl (x - x / y * y) :: st) t o t') : zOK p l e R s m0 args below meth c D ty A m pc ls (.inl y :: .inl x :: st) t o t' :=
  fun ad H locs cells slots lsA h hc hs => lv_irem C.1.1 C.1.2.1 hd hy (k ad H locs cells slots lsA (h.st (zall_c rfl (zall_t (zall_t h.2.1)))) hc hs)
theorem zs_i2b (C : zCx p l e R s m0 args meth c D ty A m) {x : Int32} (hd : decode (zbb m) pc = .ok (.i2b, 1)) (k : zOK p l e R s m0 args below meth c D ty A m (pc + 1) ls (.inl x.toInt8.toInt32 :: st) t o t') : zOK p l e R s m0 args below meth c D ty A m pc ls (.inl x :: st) t o t' :=
  fun ad H locs cells slots lsA h hc hs => lv_i2b C.1.1 C.1.2.1 hd rfl (k ad H locs cells slots lsA (h.st (zall_c rfl (zall_t h.2.1))) hc hs)
theorem zs_i2s (C : zCx p l e R s m0 args meth c D ty A m) {x : Int32} (hd : decode (zbb m) pc = .ok (.i2s, 1)) (k : zOK p l e R s m0 args below meth c D ty A m (pc + 1) ls (.inl x.toInt16.toInt32 :: st) t o t') : zOK p l e R s m0 args below meth c D ty A m pc ls (.inl x :: st) t o t' :=
  fun ad H locs cells slots lsA h hc hs => lv_i2s C.1.1 C.1.2.1 hd rfl (k ad H locs cells slots lsA (h.st (zall_c rfl (zall_t h.2.1))) hc hs)
theorem zs_goto (C : zCx p l e R s m0 args meth c D ty A m) {off : Int} (ho : 0 ≤ (pc : Int) + off) (hd : decode (zbb m) pc = .ok (.goto off, 3)) (k : zOK p l e R s m0 args below meth c D ty A m (ztgt pc off) ls st t o t') : zOK p l e R s m0 args below meth c D ty A m pc ls st t o t' :=
  fun ad H locs cells slots lsA h hc hs => lv_goto C.1.1 C.1.2.1 hd (ztgt_ok ho) (k ad H locs cells slots lsA h hc hs)
theorem zs_nn1 (C : zCx p l e R s m0 args meth c D ty A m) {off : Int} {r : Nat × Nat} (ho : 0 ≤ (pc : Int) + off) (hd : decode (zbb m) pc = .ok (.ifnonnull off, 3)) (k : zOK p l e R s m0 args below meth c D ty A m (ztgt pc off) ls st t o t') : zOK p l e R s m0 args below meth c D ty A m pc ls (.inr (some r) :: st) t o t' :=
  fun ad H locs cells slots lsA h hc hs => lv_ifnonnull C.1.1 C.1.2.1 hd (ztgt_ok ho) (k ad H locs cells slots lsA (h.st (zall_t h.2.1)) hc hs)
theorem zs_nn0 (C : zCx p l e R s m0 args meth c D ty A m) {off : Int} (hd : decode (zbb m) pc = .ok (.ifnonnull off, 3)) (k : zOK p l e R s m0 args below meth c D ty A m (pc + 3) ls st t o t') : zOK p l e R s m0 args below meth c D ty A m pc ls (.inr none :: st) t o t' :=
  fun ad H locs cells slots lsA h hc hs => lv_ifnonnullN C.1.1 C.1.2.1 hd (k ad H locs cells slots lsA (h.st (zall_t h.2.1)) hc hs)
theorem zs_n1 (C : zCx p l e R s m0 args meth c D ty A m) {off : Int} {r : Nat × Nat} (hd : decode (zbb m) pc = .ok (.ifnull off, 3)) (k : zOK p l e R s m0 args below meth c D ty A m (pc + 3) ls st t o t') : zOK p l e R s m0 args below meth c D ty A m pc ls (.inr (some r) :: st) t o t' :=
  fun ad H locs cells slots lsA h hc hs => lv_ifnull C.1.1 C.1.2.1 hd (k ad H locs cells slots lsA (h.st (zall_t h.2.1)) hc hs)
theorem zs_n0 (C : zCx p l e R s m0 args meth c D ty A m) {off : Int} (ho : 0 ≤ (pc : Int) + off) (hd : decode (zbb m) pc = .ok (.ifnull off, 3)) (k : zOK p l e R s m0 args below meth c D ty A m (ztgt pc off) ls st t o t') : zOK p l e R s m0 args below meth c D ty A m pc ls (.inr none :: st) t o t' :=
  fun ad H locs cells slots lsA h hc hs => lv_ifnullN C.1.1 C.1.2.1 hd (ztgt_ok ho) (k ad H locs cells slots lsA (h.st (zall_t h.2.1)) hc hs)
theorem zs_if (C : zCx p l e R s m0 args meth c D ty A m) {q : ClassFile.Cond} {off : Int} {x : Int32} (ho : 0 ≤ (pc : Int) + off) (hd : decode (zbb m) pc = .ok (.ifCond q off, 3))
    (kt : zcmp q x 0 = true → zOK p l e R s m0 args below meth c D ty A m (ztgt pc off) ls st t o t') (kf : zcmp q x 0 = false → zOK p l e R s m0 args below meth c D ty A m (pc + 3) ls st t o t') : zOK p l e R s m0 args below meth c D ty A m pc ls (.inl x :: st) t o t' := by
  intro ad H locs cells slots lsA h hc hs
  have h' := h.st (zall_t h.2.1)
  cases q with
  | eq => exact lv_if_eq C.1.1 C.1.2.1 hd (ztgt_ok ho) (fun z => kt (decide_eq_true z) ad H locs cells slots lsA h' hc hs) (fun z => kf (decide_eq_false z) ad H locs cells slots lsA h' hc hs)
  | ne => exact lv_if_ne C.1.1 C.1.2.1 hd (ztgt_ok ho) (fun z => kt (decide_eq_true z) ad H locs cells slots lsA h' hc hs) (fun z => kf (decide_eq_false (fun q => q z)) ad H locs cells slots lsA h' hc hs)
  | lt => exact lv_if_lt C.1.1 C.1.2.1 hd (ztgt_ok ho) (fun z => kt (decide_eq_true z) ad H locs cells slots lsA h' hc hs) (fun z => kf (decide_eq_false z) ad H locs cells slots lsA h' hc hs)
  | ge => exact lv_if_ge C.1.1 C.1.2.1 hd (ztgt_ok ho) (fun z => kt (decide_eq_true z) ad H locs cells slots lsA h' hc hs) (fun z => kf (decide_eq_false z) ad H locs cells slots lsA h' hc hs)
  | gt => exact lv_if_gt C.1.1 C.1.2.1 hd (ztgt_ok ho) (fun z => kt (decide_eq_true z) ad H locs cells slots lsA h' hc hs) (fun z => kf (decide_eq_false z) ad H locs cells slots lsA h' hc hs)
  | le => exact lv_if_le C.1.1 C.1.2.1 hd (ztgt_ok ho) (fun z => kt (decide_eq_true z) ad H locs cells slots lsA h' hc hs) (fun z => kf (decide_eq_false z) ad H locs cells slots lsA h' hc hs)
theorem zs_cmp (C : zCx p l e R s m0 args meth c D ty A m) {q : ClassFile.Cond} {off : Int} {x y : Int32} (ho : 0 ≤ (pc : Int) + off) (hd : decode (zbb m) pc = .ok (.if_icmp q off, 3))
    (kt : zcmp q x y = true → zOK p l e R s m0 args below meth c D ty A m (ztgt pc off) ls st t o t') (kf : zcmp q x y = false → zOK p l e R s m0 args below meth c D ty A m (pc + 3) ls st t o t') : zOK p l e R s m0 args below meth c D ty A m pc ls (.inl y :: .inl x :: st) t o t' := by
  intro ad H locs cells slots lsA h hc hs
  have h' := h.st (zall_t (zall_t h.2.1))
  cases q with
  | eq => exact lv_icmp_eq C.1.1 C.1.2.1 hd (ztgt_ok ho) (fun z => kt (decide_eq_true z) ad H locs cells slots lsA h' hc hs) (fun z => kf (decide_eq_false z) ad H locs cells slots lsA h' hc hs)
  | ne => exact lv_icmp_ne C.1.1 C.1.2.1 hd (ztgt_ok ho) (fun z => kt (decide_eq_true z) ad H locs cells slots lsA h' hc hs) (fun z => kf (decide_eq_false (fun q => q z)) ad H locs cells slots lsA h' hc hs)
  | lt => exact lv_icmp_lt C.1.1 C.1.2.1 hd (ztgt_ok ho) (fun z => kt (decide_eq_true z) ad H locs cells slots lsA h' hc hs) (fun z => kf (decide_eq_false z) ad H locs cells slots lsA h' hc hs)
  | ge => exact lv_icmp_ge C.1.1 C.1.2.1 hd (ztgt_ok ho) (fun z => kt (decide_eq_true z) ad H locs cells slots lsA h' hc hs) (fun z => kf (decide_eq_false z) ad H locs cells slots lsA h' hc hs)
  | gt => exact lv_icmp_gt C.1.1 C.1.2.1 hd (ztgt_ok ho) (fun z => kt (decide_eq_true z) ad H locs cells slots lsA h' hc hs) (fun z => kf (decide_eq_false z) ad H locs cells slots lsA h' hc hs)
  | le => exact lv_icmp_le C.1.1 C.1.2.1 hd (ztgt_ok ho) (fun z => kt (decide_eq_true z) ad H locs cells slots lsA h' hc hs) (fun z => kf (decide_eq_false z) ad H locs cells slots lsA h' hc hs)
theorem zs_lsw (C : zCx p l e R s m0 args meth c D ty A m) {d : Int} {ps : Array (Int × Int)} {len : Nat} {x : Int32} (hp : (ps.toList.zip (ps.toList.drop 1)).all (fun (a, next) => a.1 < next.1) = true) (ho : 0 ≤ (pc : Int) + Op.lookupswitch.offset ps.toList d x.toInt) (hd : decode (zbb m) pc = .ok (.lookupswitch d ps, len))
    (k : zOK p l e R s m0 args below meth c D ty A m (ztgt pc (Op.lookupswitch.offset ps.toList d x.toInt)) ls st t o t') : zOK p l e R s m0 args below meth c D ty A m pc ls (.inl x :: st) t o t' :=
  fun ad H locs cells slots lsA h hc hs => lv_lookup C.1.1 C.1.2.1 hd hp rfl (ztgt_ok ho) (k ad H locs cells slots lsA (h.st (zall_t h.2.1)) hc hs)
theorem zs_tsw (C : zCx p l e R s m0 args meth c D ty A m) {d lo hi off : Int} {offs : Array Int} {len : Nat} {x : Int32} (hz : zsw d lo hi offs x = some off) (ho : 0 ≤ (pc : Int) + off) (hd : decode (zbb m) pc = .ok (.tableswitch d lo hi offs, len))
    (k : zOK p l e R s m0 args below meth c D ty A m (ztgt pc off) ls st t o t') : zOK p l e R s m0 args below meth c D ty A m pc ls (.inl x :: st) t o t' := by
  intro ad H locs cells slots lsA h hc hs
  have kk := k ad H locs cells slots lsA (h.st (zall_t h.2.1)) hc hs
  unfold zsw at hz
  by_cases hx : x.toInt < lo ∨ hi < x.toInt
  · rw [if_pos hx] at hz
    cases hz
    exact lv_tableOut C.1.1 C.1.2.1 hd hx (ztgt_ok ho) kk
  · rw [if_neg hx] at hz
    exact lv_tableIn C.1.1 C.1.2.1 hd (fun z => hx (Or.inl z)) (fun z => hx (Or.inr z)) hz (ztgt_ok ho) kk
end ZR
