/-! The law between its calls: its state, and rows that keep it. -/
def lSt (D : va_G) (ty : Nat → ClassId) (A : Nat → Prop) (s : State) (cL : ClassId) (oa X M : Nat) (ad : zA) (t : zT) (H : Heap) (locs : List Loc) (f : Nat → Int64) : Prop :=
  lWd D ty A s ad t H locs ∧ va_P D zcl (lout cL oa f) H ∧ (∀ k i, zok t.2 k i = true → ad k i ≠ oa) ∧ ad 0 0 = X ∧ ad 16 0 = M
theorem zok_0 (md : Nat) : zok md 0 0 = true := rfl
theorem zok_16 (md : Nat) : zok md 16 0 = true := rfl
section LR
variable {p : Program} {l : Launch} {e : Env} {R : Room} {s : State} {m0 : MethodId} {args : Array Value} {below : List Frame} {meth : Method} {c : Code} {D : va_G} {ty : Nat → ClassId} {A : Nat → Prop} {cc : ByteArray} {nL : Nat} {Q : State → Prop} {cL : ClassId} {oa X M : Nat}
theorem lSt.next {ad ad' : zA} {t t1 : zT} {H H' : Heap} {locs locs' : List Loc} {f : Nat → Int64} (h : lSt D ty A s cL oa X M ad t H locs f) (hx : zExt ad ad' t.2) (h1 : lWd D ty A s ad' t1 H' locs') (hA : ∀ k i, zok t1.2 k i = true → zAr ad t.2 H.size (ad' k i)) (hk : ∀ q, q < H.size → ¬ zAr ad t.2 H.size q → H'[q]? = H[q]?) : lSt D ty A s cL oa X M ad' t1 H' locs' f :=
  ⟨h1, lout_kept h.2.1 (hk oa (lout_lt h.2.1) (lout_no h.2.2.1 (lout_lt h.2.1))), lout_ne h.2.2.1 (lout_lt h.2.1) hA, by rw [hx 0 0 (zok_0 _)]; exact h.2.2.2.1, by rw [hx 16 0 (zok_16 _)]; exact h.2.2.2.2⟩
-- a method of the class or of the reference that returns an int
theorem lcZ {ad : zA} {t t1 : zT} {H : Heap} {locs : List Loc} {cells slots N m' n k0 pc Rv : Nat} {as' : List zV} {x : Int32} {rest : List Value} {ls : Array Slot} {f : Nat → Int64} (C : lCx p l s m0 args c D ty A cc nL) (h : lSt D ty A s cL oa X M ad t H locs f) (hR : (k0 = 0 ∧ Rv = X) ∨ (k0 = 16 ∧ Rv = M))
    (hm' : m' < 123) (hl : Cond.methodLink "PageKeeperLaw" n (zyy m') ∈ zWS) (hst : zstat m' = false) (hrv : zcls k0 (zown m') = true) (hna : as'.length + 1 = znar m') (has : ∀ v ∈ as', zvok t.2 v = true)
    (hz : zrun N m' (0, zent m' (.inr (some (k0, 0)) :: as'), [], t) = some (.inl (some (.inl x)), t1)) (hf : zFr m' + 1 ≤ R.frames) (hw : 8 + (zlocs m' + 11) + zLo m' ≤ R.locals) (hls : ls.size = nL) (hr : (rest.map fun v => v.category).sum ≤ 8)
    (hd : decode cc pc = .ok (.invokevirtual n, 3)) (hc : cells + (t1.2 - t.2) ≤ R.cells) (hs : slots + 16 * (t1.2 - t.2) ≤ R.slots)
    (kk : ∀ (ad' : zA) (H' : Heap) (locs' : List Loc), lSt D ty A s cL oa X M ad' t1 H' locs' f → W p l e R s m0 args below meth c H' locs' (cells + (t1.2 - t.2)) (slots + 16 * (t1.2 - t.2)) Q (F0 m0 (pc + 3) ls (.int x :: rest))) :
    W p l e R s m0 args below meth c H locs cells slots Q (F0 m0 pc ls ((as'.map (zcv ad)).reverse ++ .ref Rv :: rest)) := by
  have hRv : Rv = ad k0 0 ∧ zok t.2 k0 0 = true := by
    rcases hR with ⟨rfl, rfl⟩ | ⟨rfl, rfl⟩
    · exact ⟨h.2.2.2.1.symm, rfl⟩
    · exact ⟨h.2.2.2.2.symm, rfl⟩
  rw [hRv.1]
  exact lcallV C h.1 hm' hl hst hrv hna hRv.2 has hz hf hw hls hr hd hc hs fun ad' H' locs' hx h1 hA hk => kk ad' H' locs' (h.next hx h1 hA hk)
-- a helper
theorem lcH {ad : zA} {t t1 : zT} {H : Heap} {locs : List Loc} {cells slots mc ms n k maxL pc : Nat} {y : MethodName} {bytes : ByteArray} {hh : List (Nat × Nat × Nat × Nat)} {rm : Room} {o : zO} {as : List zV} {rest : List Value} {ls : Array Slot} {f : Nat → Int64} (C : lCx p l s m0 args c D ty A cc nL) (hn : lNn s) (hKL : va_K D zcl [(cL, .long)] s) (hAo : A oa) (h : lSt D ty A s cL oa X M ad t H locs f)
    (hM : Met l y (.codeWith y bytes maxL (some .int) hh :: zWS) rm (lPh D ty ad t as H.size cL oa f) (fun _ st oc u => lQh D ty ad t.2 H.size o t1 cL oa st oc u) mc ms (lFr ad t.2 H.size oa)) (hrc : rm.cells = mc) (hrs : rm.slots = ms) (hfr : rm.frames + 1 ≤ R.frames) (hlo : 8 + (maxL + 11) + rm.locals ≤ R.locals)
    (hcw : Cond.codeWith y bytes maxL (some .int) hh ∈ zWS) (hl : Cond.methodLink "PageKeeperLaw" n y ∈ zWS) (hst : Cond.static y ∈ zWS) (hini : Cond.initialized y.cls ∈ zWS) (hy : y.cls ≠ "java/lang/invoke/MethodHandle" ∧ y.cls ≠ "java/lang/invoke/VarHandle") (hk : zpar y = some k) (hlen : as.length + 2 = k)
    (hls : ls.size = nL) (hr : (rest.map fun v => v.category).sum ≤ 8) (hd : decode cc pc = .ok (.invokestatic n, 3)) (hc : cells + mc ≤ R.cells) (hs : slots + ms ≤ R.slots)
    (kk : ∀ (ad' : zA) (H' : Heap) (locs' : List Loc) (f' : Nat → Int64), lSt D ty A s cL oa X M ad' t1 H' locs' f' → (∀ x, o = .inl (some (.inl x)) → f' 0 = x.toInt64) → W p l e R s m0 args below meth c H' locs' (cells + mc) (slots + ms) Q (F0 m0 (pc + 3) ls (.int (lcode o) :: rest))) :
    W p l e R s m0 args below meth c H locs cells slots Q (F0 m0 pc ls (.ref oa :: ((as.map (zcv ad)).reverse ++ .ref X :: rest))) := by
  have hlt := lout_lt h.2.1
  intro T hT X0
  have hall : ∀ w ∈ (Cond.codeWith y bytes maxL (some .int) hh :: zWS), ∀ (a' : Array Value) (U : State), s.WarmedH U.vm → w.before a' U = true := by
    intro w hw a' U hW
    rcases List.mem_cons.mp hw with rfl | hw
    · exact zword hW (zWS_good hcw) (C.2.1.2.1 _ hcw)
    · exact zword hW (zWS_good hw) (C.2.1.2.1 _ hw)
  have hB : Back l R p e below s args y 3 8 (PreOf R mc ms (lPh D ty ad t as H.size cL oa f)) (PostOf (fun _ st oc u => lQh D ty ad t.2 H.size o t1 cL oa st oc u) mc ms (lFr ad t.2 H.size oa)) := va_backW (hh := hh) (bytes := bytes) (maxL := maxL) (ret := some .int) hM (lPh_blind _ _ _ _ _ _ _ _ _) hrc hrs hfr hlo hall List.mem_cons_self (fun a' U hW => zword hW (zWS_good hini) (C.2.1.2.1 _ hini))
  obtain ⟨v, vm₁, ⟨U', l2, c2, s2⟩, hW₁, X', ⟨g', mk, u, L, e1, e2, hq, h1, hL, h2, h3⟩, st⟩ := Jvm.RoadKit.callSH X0 C.1.1 (bytes := bytes) (maxL := maxL) (ret := some .int) (hs := hh) C.2.1.1 (C.2.1.2.1 _ hl) (C.2.1.2.1 _ hst) (C.2.1.2.1 _ hini) (C.2.1.2.1 _ hcw) hy hB (g := F0 m0 pc ls (.ref oa :: ((as.map (zcv ad)).reverse ++ .ref X :: rest))) rfl (hls.trans C.1.2.2.symm) (argsL := (.ref (ad 0 0) :: as.map (zcv ad)) ++ [.ref oa]) (rest := rest)
    (fun sig hsig => by
      unfold zpar at hk
      rw [hsig] at hk
      have : sig.parameters.length = k := Option.some.inj hk
      simp only [List.length_append, List.length_cons, List.length_map, List.length_nil]
      omega)
    (by show Value.ref oa :: ((as.map (zcv ad)).reverse ++ Value.ref X :: rest) = _; rw [← h.2.2.2.1]; simp) (by show 2 * 0 + (rest.map fun v => v.category).sum ≤ 8; omega) (by rw [C.1.2.1]; exact hd)
    (fun vm₁ hW₁ => ⟨hc, hs, rfl, hn.moved hW₁.alike, by show T.heap.size = _; rw [hT], by show zW D ty ad t T.heap; rw [hT]; exact h.1.1, C.2.1.2.2.moved hW₁.alike, hKL.moved hW₁.alike, (lPc_at (as := []) C h.1 (U := T.setVm vm₁) hT hW₁).2.2.2.2, by show va_P D zcl (lout cL oa f) T.heap; rw [hT]; exact h.2.1, h.2.2.1⟩)
  obtain ⟨⟨ad', f', hv, hx, hw', hA', hP', hf'⟩, hF⟩ := hq
  cases hv
  have hH0 : ((T.setVm vm₁).calling g' mk ((Value.ref (ad 0 0) :: as.map (zcv ad)) ++ [Value.ref oa]).toArray).heap = H := hT
  have e1 : U'.heap = u.heap := e1
  have hS' : va_S A s.heap U'.heap (locs ++ L) := by
    have hS := h.1.2.2
    have hsub : ∀ q, lFr ad t.2 H.size oa q → A q := fun q hq => by
      rcases hq with hq | rfl
      · exact h.1.sub C hq
      · exact hAo
    refine ⟨Nat.le_trans hS.1 (by rw [e1, ← hH0]; exact hF.1), fun q g1 g2 => ?_, fun q hq => ?_⟩
    · rw [e1, hF.2 q (by rw [hH0]; exact Nat.lt_of_lt_of_le g1 hS.1) (fun z => g2 (hsub q z)), hH0]
      exact hS.2.1 q g1 g2
    · rcases List.mem_append.mp hq with hq | hq
      · exact hS.2.2 q hq
      · exact hsub _ (hL q hq)
  have h1 : l2 = locs ++ L := h1
  have h2 : c2 = cells + mc := h2
  have h3 : s2 = slots + ms := h3
  subst h1 h2 h3
  obtain ⟨u2, g1, g2⟩ := kk ad' U'.heap (locs ++ L) f' ⟨⟨by rw [e1]; exact hw', fun k i hk => h.1.sub C (hA' k i hk).1, hS'⟩, by rw [e1]; exact hP', fun k i hk => (hA' k i hk).2, by rw [hx 0 0 (zok_0 _)]; exact h.2.2.2.1, by rw [hx 16 0 (zok_16 _)]; exact h.2.2.2.2⟩ hf' U' rfl X'
  exact ⟨u2, st u2 g1, g2⟩
-- the script's next ints
theorem lsld {H : Heap} {locs : List Loc} {cells slots pc b L j k : Nat} {xs : Nat → Int32} {rest : List Value} {ls : Array Slot} (C : lCx p l s m0 args c D ty A cc nL) (hX : va_X b L xs s s.heap) (hbl : b < s.heap.size) (hbA : ¬ A b) (hS : va_S A s.heap H locs) (hj : j + k < L) (hL : L ≤ 2048) (hd1 : decode cc pc = .ok (.iadd, 1)) (hd2 : decode cc (pc + 1) = .ok (.iaload, 1))
    (kk : W p l e R s m0 args below meth c H locs cells slots Q (F0 m0 (pc + 2) ls (.int (xs (j + k)) :: rest))) : W p l e R s m0 args below meth c H locs cells slots Q (F0 m0 pc ls (.int (nI k) :: .int (nI j) :: .ref b :: rest)) := by
  refine lv_iadd C.1.1 C.1.2.1 hd1 ?_
  rw [nI_add]
  refine va_sld C.1.1 C.1.2.1 hX hbl hbA hS (vp_in_nI hj (by omega)) hd2 ?_
  rw [nI_clamp (by omega)]
  exact kk
end LR
-- what a call of the law does to both
def lOpA (m mm : Nat) (th : Bool) (as : List zV) (t t2 : zT) : Prop := ∃ (N1 N2 : Nat) (o : zO) (t1 : zT) (r : Int32), zrun N1 m (0, zent m (.inr (some (0, 0)) :: as), [], t) = some (o, t1) ∧ ((∃ x, o = .inl (some (.inl x))) ∨ o = .inr 1 ∨ o = .inr 2 ∨ (th = true ∧ o = .inr 3)) ∧ zrun N2 mm (0, zent mm (.inr (some (16, 0)) :: as), [], t1) = some (.inl (some (.inl r)), t2) ∧ t2.1 1024 0 0 = lcode o ∧ ∀ x, o = .inl (some (.inl x)) → x = r
def lOpB (m mm : Nat) (as : List zV) (t t2 : zT) : Prop := ∃ (N1 N2 : Nat) (v : Int32) (t1 : zT), zrun N1 m (0, zent m (.inr (some (0, 0)) :: as), [], t) = some (.inl (some (.inl v)), t1) ∧ zrun N2 mm (0, zent mm (.inr (some (16, 0)) :: as), [], t1) = some (.inl (some (.inl v)), t2)
theorem lthrown (t : zT) : zrun 3 75 (0, zent 75 [.inr (some (16, 0))], [], t) = some (.inl (some (.inl (t.1 1024 0 0))), t) := rfl
