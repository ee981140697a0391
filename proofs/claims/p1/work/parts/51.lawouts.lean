/-! The law's own cell (its answers), and what a helper of the law does. -/
def lNo : List Cond := [.not (.castable (zxn 2) (zxn 1)), .not (.castable (zxn 3) (zxn 1)), .not (.castable (zxn 3) (zxn 2))]
theorem lno_moved {a b : String} {args args' : Array Value} {u U : State} (hvm : u.vm.Alike U.vm) (h : (Cond.not (.castable a b)).before args u = true) : (Cond.not (.castable a b)).before args' U = true := by
  have hv := Cond.holds_not_iff.mp h
  refine Cond.holds_not_iff.mpr ?_
  simp only [Cond.value, hvm.findClass, hvm.assignable]
  simp only [Cond.value] at hv
  exact hv
def lNn (U : State) : Prop := ∀ w ∈ lNo, w.before #[] U = true
theorem lNn.moved {u U : State} (hvm : u.vm.Alike U.vm) (h : lNn u) : lNn U := by
  intro w hw
  have h1 := h w hw
  simp only [lNo, List.mem_cons, List.not_mem_nil, or_false] at hw
  rcases hw with rfl | rfl | rfl <;> exact lno_moved hvm h1
theorem lNn.at {u : State} {args : Array Value} (h : lNn u) : ∀ w ∈ lNo, w.before args u = true := by
  intro w hw
  have h1 := h w hw
  simp only [lNo, List.mem_cons, List.not_mem_nil, or_false] at hw
  rcases hw with rfl | rfl | rfl <;> exact lno_moved (Vm.Alike.refl _) h1
-- a helper's answer
def lcode (o : zO) : Int32 := match o with
  | .inl _ => 0
  | .inr x => nI x
abbrev lout (cL : ClassId) (oa : Nat) (f : Nat → Int64) : va_W := [(oa, .inl (cL, 1, .inr (.inl f)))]
def lFr (ad : zA) (md sz oa : Nat) : Nat → Prop := fun q => zAr ad md sz q ∨ q = oa
def lPh (D : va_G) (ty : Nat → ClassId) (ad : zA) (t : zT) (as : List zV) (sz : Nat) (cL : ClassId) (oa : Nat) (f : Nat → Int64) : Array Value → State → Prop := fun a U => a = ((Value.ref (ad 0 0) :: as.map (zcv ad)) ++ [Value.ref oa]).toArray ∧ lNn U ∧ U.heap.size = sz ∧ zW D ty ad t U.heap ∧ va_K D zcl (ztys ty) U ∧ va_K D zcl [(cL, .long)] U ∧ zTh U ∧ va_P D zcl (lout cL oa f) U.heap ∧ ∀ k i, zok t.2 k i = true → ad k i ≠ oa
def lQh (D : va_G) (ty : Nat → ClassId) (ad : zA) (md sz : Nat) (o : zO) (t1 : zT) (cL : ClassId) (oa : Nat) : State → Outcome → State → Prop := fun st oc u => (∃ (ad' : zA) (f' : Nat → Int64), oc = .returned (some (.int (lcode o))) ∧ zExt ad ad' md ∧ zW D ty ad' t1 u.heap ∧ (∀ k i, zok t1.2 k i = true → zAr ad md sz (ad' k i) ∧ ad' k i ≠ oa) ∧ va_P D zcl (lout cL oa f') u.heap ∧ ∀ x, o = .inl (some (.inl x)) → f' 0 = x.toInt64) ∧ va_F (lFr ad md sz oa) st u
theorem lPh_blind (D : va_G) (ty : Nat → ClassId) (ad : zA) (t : zT) (as : List zV) (sz : Nat) (cL : ClassId) (oa : Nat) (f : Nat → Int64) : FrameBlind (lPh D ty ad t as sz cL oa f) := by
  intro a U g mk h
  obtain ⟨h1, h0, h2, h3, h4, h5, h6, h7⟩ := h
  exact ⟨h1, lNn.moved (u := U) (Vm.Alike.refl _) h0, h2, h3, h4.moved (Vm.Alike.refl _), h5.moved (Vm.Alike.refl _), zTh.same (u := U) (U := U.calling g mk a) rfl rfl h6, h7⟩
-- the cell is apart from the world
theorem lout_lt {D : va_G} {cL : ClassId} {oa : Nat} {f : Nat → Int64} {H : Heap} (h : va_P D zcl (lout cL oa f) H) : oa < H.size := (h 0 _ rfl).lt
theorem lout_ne {ad ad' : zA} {md md1 oa sz : Nat} (hne : ∀ k i, zok md k i = true → ad k i ≠ oa) (hlt : oa < sz) (h : ∀ k i, zok md1 k i = true → zAr ad md sz (ad' k i)) : ∀ k i, zok md1 k i = true → ad' k i ≠ oa := by
  intro k i hk he
  rcases h k i hk with ⟨k', i', h1, h2⟩ | h1
  · exact hne k' i' h1 (by rw [← h2]; exact he)
  · omega
theorem lout_no {ad : zA} {md oa sz : Nat} (hne : ∀ k i, zok md k i = true → ad k i ≠ oa) (hlt : oa < sz) : ¬ zAr ad md sz oa := by
  rintro (⟨k, i, h1, h2⟩ | h1)
  · exact hne k i h1 h2.symm
  · omega
theorem lout_kept {D : va_G} {cL : ClassId} {oa : Nat} {f : Nat → Int64} {H H1 : Heap} (h : va_P D zcl (lout cL oa f) H) (hq : H1[oa]? = H[oa]?) : va_P D zcl (lout cL oa f) H1 := h.kept fun k q hk => by
  have hz : k < 1 := (List.getElem?_eq_some_iff.mp hk).1
  rw [show k = 0 by omega] at hk
  cases hk
  exact hq
section LO
variable {p : Program} {l : Launch} {e : Env} {R : Room} {s : State} {m0 : MethodId} {args : Array Value} {below : List Frame} {meth : Method} {c : Code} {D : va_G} {ty : Nat → ClassId} {A : Nat → Prop} {cc : ByteArray} {nL : Nat} {Q : State → Prop}
theorem lstore {ad : zA} {t : zT} {H : Heap} {locs : List Loc} {cells slots pc oa : Nat} {cL : ClassId} {f : Nat → Int64} {x : Int64} {rest : List Value} {ls : Array Slot} (C : lCx p l s m0 args c D ty A cc nL) (h : lWd D ty A s ad t H locs) (hKL : va_K D zcl [(cL, .long)] s) (ho : va_P D zcl (lout cL oa f) H) (hne : ∀ k i, zok t.2 k i = true → ad k i ≠ oa) (hAo : A oa) (hd : decode cc pc = .ok (.lastore, 1))
    (kk : ∀ (H1 : Heap) (locs1 : List Loc) (f1 : Nat → Int64), f1 0 = x → lWd D ty A s ad t H1 locs1 → va_P D zcl (lout cL oa f1) H1 → W p l e R s m0 args below meth c H1 locs1 cells slots Q (F0 m0 (pc + 1) ls rest)) : W p l e R s m0 args below meth c H locs cells slots Q (F0 m0 pc ls (.long x :: .int 0 :: .ref oa :: rest)) := by
  obtain ⟨L, hL⟩ := h.1
  have hD : va_D A (lout cL oa f ++ zl ty ad t L) := by
    refine va_D.app ⟨fun i j p q hi hj _ => ?_, fun k q hk => ?_⟩ (hL.da h.2.1) fun i j p q hi hj => ?_
    · have := (List.getElem?_eq_some_iff.mp hi).1
      have := (List.getElem?_eq_some_iff.mp hj).1
      simp only [List.length_cons, List.length_nil] at *
      omega
    · have hz : k < 1 := (List.getElem?_eq_some_iff.mp hk).1
      rw [show k = 0 by omega] at hk
      cases hk
      exact hAo
    · have hz : i < 1 := (List.getElem?_eq_some_iff.mp hi).1
      rw [show i = 0 by omega] at hi
      cases hi
      obtain ⟨k, i', h1, h2⟩ := zl_inv hj
      rw [h2]
      exact fun he => hne k i' (hL.2.1 (k, i') (List.mem_of_getElem? h1)) he.symm
  refine va_last C.1.1 C.1.2.1 hKL (ho.app hL.2.2.1) hD h.2.2 0 0 rfl rfl (vp_in_nI (n := 0) (by decide) (by decide)) hd fun H1 locs1 hP1 hD1 hS1 => ?_
  have hP1 : va_P D zcl (lout cL oa (vp_updL f (0 : Int32).toNatClampNeg x) ++ zl ty ad t L) H1 := hP1
  refine kk H1 locs1 (vp_updL f (0 : Int32).toNatClampNeg x) ?_ ⟨⟨L, hL.1, hL.2.1, fun k q hk => hP1 (k + 1) q ?_, hL.2.2.2⟩, h.2.1, hS1⟩ (fun k q hk => ?_)
  · show (if (0 : Nat) = (0 : Int32).toNatClampNeg then x else _) = x
    exact if_pos rfl
  · exact hk
  · have hz : k < 1 := (List.getElem?_eq_some_iff.mp hk).1
    rw [show k = 0 by omega] at hk
    exact hP1 0 q hk
end LO
