/-! The law's helpers: each calls one method of the class and tells how it ended. Printed by lawgen.py. -/
theorem lh0_0 : decode method_3_code 0 = .ok (.aload_n 2, 1) := by decide +kernel
theorem lh0_1 : decode method_3_code 1 = .ok (.iconst 0, 1) := by decide +kernel
theorem lh0_2 : decode method_3_code 2 = .ok (.aload_n 0, 1) := by decide +kernel
theorem lh0_3 : decode method_3_code 3 = .ok (.iload_n 1, 1) := by decide +kernel
theorem lh0_4 : decode method_3_code 4 = .ok (.invokevirtual 7, 3) := by decide +kernel
theorem lh0_7 : decode method_3_code 7 = .ok (.i2l, 1) := by decide +kernel
theorem lh0_8 : decode method_3_code 8 = .ok (.lastore, 1) := by decide +kernel
theorem lh0_9 : decode method_3_code 9 = .ok (.goto 9, 3) := by decide +kernel
theorem lh0_12 : decode method_3_code 12 = .ok (.astore_n 3, 1) := by decide +kernel
theorem lh0_13 : decode method_3_code 13 = .ok (.iconst 1, 1) := by decide +kernel
theorem lh0_14 : decode method_3_code 14 = .ok (.ireturn, 1) := by decide +kernel
theorem lh0_15 : decode method_3_code 15 = .ok (.astore_n 3, 1) := by decide +kernel
theorem lh0_16 : decode method_3_code 16 = .ok (.iconst 2, 1) := by decide +kernel
theorem lh0_17 : decode method_3_code 17 = .ok (.ireturn, 1) := by decide +kernel
theorem lh0_18 : decode method_3_code 18 = .ok (.iconst 0, 1) := by decide +kernel
theorem lh0_19 : decode method_3_code 19 = .ok (.ireturn, 1) := by decide +kernel
abbrev lhs0 : List (Nat × Nat × Nat × Nat) := [(0, 9, 12, 13), (0, 9, 15, 15)]
def lhy0 : MethodName := ⟨"PageKeeperLaw", "begin", "(LPageKeeper;I[J)I"⟩
set_option maxRecDepth 20000 in
theorem lhw0 : lw_tbl[551]? = some (.codeWith lhy0 method_3_code 4 (some .int) lhs0) := rfl
def lhws0 : List Cond := .codeWith lhy0 method_3_code 4 (some .int) lhs0 :: zWS
set_option maxRecDepth 100000 in
theorem lh0 {l : Launch} {D : va_G} {ty : Nat → ClassId} {ad : zA} {t t1 : zT} {o : zO} {N sz oa : Nat} {cL : ClassId} {f : Nat → Int64} {a1 : Int32} (htr : ∀ e, l.admits e → e.platform.stackTraces = false) (hz : zrun N 0 (0, zent 0 (.inr (some (0, 0)) :: [.inl a1]), [], t) = some (o, t1)) (ho : (∃ x, o = .inl (some (.inl x))) ∨ o = .inr 1 ∨ o = .inr 2) (hm : t.2 ≤ t1.2) :
    Met l lhy0 lhws0 { frames := zFr 0 + 1, locals := 8 + (zlocs 0 + 11) + zLo 0, cells := t1.2 - t.2 + zth o, slots := 16 * (t1.2 - t.2) + 6 * zth o } (lPh D ty ad t [.inl a1] sz cL oa f) (fun _ st oc u => lQh D ty ad t.2 sz o t1 cL oa st oc u) (t1.2 - t.2 + zth o) (16 * (t1.2 - t.2) + 6 * zth o) (lFr ad t.2 sz oa) := by
  refine va_MetW (cc := method_3_code) (maxL := 4) (ret := some .int) (hh := lhs0) (by decide) rfl ?_
  intro p e s m args below meth c s₁ B hml hv
  obtain ⟨rfl, hno, hsz, hw, hK, hKL, hT, hP, hne⟩ := hv
  have hts : ∀ w ∈ lhws0, w.before _ s = true := atoms_spec B.pre
  have hws : ∀ w ∈ zWS, w.before _ s = true := fun w hw => hts w (List.mem_cons_of_mem _ hw)
  obtain ⟨mq, methq, cq, q0, q1, q2, -, -, q5, -⟩ := Cond.codeWith_spec (hts _ List.mem_cons_self)
  cases B.named.symm.trans q0
  have X0 := Stand.of_body B
  cases X0.method.symm.trans q1
  cases X0.code.symm.trans q2
  have hex : c.exceptionTable.toList = tableOf lhs0 := by rw [← table_eq c.exceptionTable.toList, q5]
  subst hsz
  have hlt := lout_lt hP
  have hAk : zAok (lFr ad t.2 s.heap.size oa) s := by
    refine ⟨fun q hq => Or.inl (Or.inr hq), fun q cell hq hst hA => ?_⟩
    rcases hA with hA | rfl
    · exact (zAr_ok hw).2 q cell hq hst hA
    · have h9 : s.heap[q]? = some (vp_cell cL (1, .inr (.inl f))) := hP 0 _ rfl
      rw [h9] at hq
      cases hq
      cases hst
  have C : lCx p l s m _ c D ty (lFr ad t.2 s.heap.size oa) method_3_code 4 := ⟨⟨B.exec, B.bytes, hml⟩, ⟨findClass_of_methodNamed B.named, hws, hK⟩, hT, hAk, htr⟩
  have h : lWd D ty (lFr ad t.2 s.heap.size oa) s ad t s.heap [] := ⟨hw, fun k i hk => Or.inl (Or.inl ⟨k, i, hk, rfl⟩), va_S.rf⟩
  have hx := B.exec
  have hb := B.bytes
  have hl := lv_entry ([.ref (ad 0 0), .int a1, .ref oa]) (n := 4) (Nat.le_of_ble_eq_true rfl)
  show W _ _ _ _ _ _ _ _ _ _ _ _ _ _ _ (entryFrame m ([.ref (ad 0 0), .int a1, .ref oa] : List Value).toArray 4)
  rw [lg_entry_eq]
  generalize (lg_sl ([.ref (ad 0 0), .int a1, .ref oa]) ++ List.replicate (4 - (lg_sl ([.ref (ad 0 0), .int a1, .ref oa])).length) Slot.unset).toArray = ls at hl ⊢
  have hl : lv_has ls 4 [(0, .ref (ad 0 0)), (1, .int a1), (2, .ref oa)] := hl
  refine lv_aload_n hx hb lh0_0 rfl (lv_at hl 2 rfl) ?_
  refine lv_iconst (v := 0) hx hb lh0_1 (by decide) ?_
  refine lv_aload_n hx hb lh0_2 rfl (lv_at hl 0 rfl) ?_
  refine lv_iload_n hx hb lh0_3 rfl (lv_at hl 1 rfl) ?_
  have hlk : Cond.methodLink "PageKeeperLaw" 7 (zyy 0) ∈ zWS := zhas_mem (by decide +kernel)
  rcases ho with ⟨x, rfl⟩ | rfl | rfl
  · refine lcallV (N := N) (m' := 0) (n := 7) (k0 := 0) (i0 := 0) (as' := [.inl a1]) (rest := [.int 0, .ref oa]) C h (by decide) hlk (by decide +kernel) (by decide +kernel) (by show 2 = znar 0; decide +kernel) rfl (fun v hv => by simp only [List.mem_cons, List.not_mem_nil, or_false] at hv; rcases hv with rfl <;> rfl) hz (Nat.le_refl _) (Nat.le_refl _) hl.1 (Nat.le_of_ble_eq_true rfl) lh0_4 (by show 0 + (t1.2 - t.2) ≤ t1.2 - t.2 + 0; omega) (by show 0 + 16 * (t1.2 - t.2) ≤ 16 * (t1.2 - t.2) + 6 * 0; omega) fun ad' H' locs' hx1 h1 hA1 hk1 => ?_
    refine lv_i2l hx hb lh0_7 rfl ?_
    refine lstore C h1 hKL (lout_kept hP (hk1 oa hlt (lout_no hne hlt))) (lout_ne hne hlt hA1) (Or.inr rfl) lh0_8 fun H2 locs2 f2 hf2 h2 hP2 => ?_
    refine lv_goto (tgt := 18) hx hb lh0_9 (by decide) ?_
    refine lv_iconst (v := 0) hx hb lh0_18 (by decide) ?_
    refine W.widen (k := t1.2 - t.2 + zth (.inl (some (.inl x)))) (n := 16 * (t1.2 - t.2) + 6 * zth (.inl (some (.inl x)))) (by simp [zth]) (by simp [zth]) ?_
    exact W.iret (v := 0) hx hb B.returns (fun u hu hW => ⟨⟨ad', f2, rfl, hx1, by rw [hu]; exact h2.1, fun k i hk => ⟨hA1 k i hk, lout_ne hne hlt hA1 k i hk⟩, by rw [hu]; exact hP2, fun y hy => by cases hy; exact hf2⟩, h2.2.2.F hu⟩) h2.2.2.2.2 lh0_19 B.notSynchronized
  · refine lthrV (x := 1) (pre := []) (row := ⟨0, 9, 12, 13⟩) (post := [⟨0, 9, 15, 15⟩]) (N := N) (m' := 0) (n := 7) (k0 := 0) (i0 := 0) (as' := [.inl a1]) (rest := [.int 0, .ref oa]) C h (by decide) hlk (by decide +kernel) (by decide +kernel) (by show 2 = znar 0; decide +kernel) rfl (fun v hv => by simp only [List.mem_cons, List.not_mem_nil, or_false] at hv; rcases hv with rfl <;> rfl) hz (Nat.le_refl _) (Nat.le_refl _) hl.1 (Nat.le_of_ble_eq_true rfl) lh0_4 (by show 0 + (t1.2 - t.2 + 1) ≤ t1.2 - t.2 + 1; omega) (by show 0 + (16 * (t1.2 - t.2) + 6) ≤ 16 * (t1.2 - t.2) + 6 * 1; omega) hex (fun y hy => by cases hy) (by decide) (by decide) (hws _ (zhas_mem (by decide +kernel))) (hws _ (zhas_mem (by decide +kernel))) fun a ad' H' locs' hx1 h1 hA1 hk1 => ?_
    refine lv_astore_n hx hb lh0_12 rfl hl (by decide) rfl fun ls hl => ?_
    refine lv_iconst (v := nI 1) hx hb lh0_13 (by decide) ?_
    refine W.widen (k := t1.2 - t.2 + zth (.inr 1)) (n := 16 * (t1.2 - t.2) + 6 * zth (.inr 1)) (by show 0 + (t1.2 - t.2 + 1) ≤ t1.2 - t.2 + 1; omega) (by show 0 + (16 * (t1.2 - t.2) + 6) ≤ 16 * (t1.2 - t.2) + 6 * 1; omega) ?_
    exact W.iret (v := nI 1) hx hb B.returns (fun u hu hW => ⟨⟨ad', f, rfl, hx1, by rw [hu]; exact h1.1, fun k i hk => ⟨hA1 k i hk, lout_ne hne hlt hA1 k i hk⟩, by rw [hu]; exact lout_kept hP (hk1 oa hlt (lout_no hne hlt)), fun y hy => by cases hy⟩, h1.2.2.F hu⟩) h1.2.2.2.2 lh0_14 B.notSynchronized
  · refine lthrV (x := 2) (pre := [⟨0, 9, 12, 13⟩]) (row := ⟨0, 9, 15, 15⟩) (post := []) (N := N) (m' := 0) (n := 7) (k0 := 0) (i0 := 0) (as' := [.inl a1]) (rest := [.int 0, .ref oa]) C h (by decide) hlk (by decide +kernel) (by decide +kernel) (by show 2 = znar 0; decide +kernel) rfl (fun v hv => by simp only [List.mem_cons, List.not_mem_nil, or_false] at hv; rcases hv with rfl <;> rfl) hz (Nat.le_refl _) (Nat.le_refl _) hl.1 (Nat.le_of_ble_eq_true rfl) lh0_4 (by show 0 + (t1.2 - t.2 + 1) ≤ t1.2 - t.2 + 1; omega) (by show 0 + (16 * (t1.2 - t.2) + 6) ≤ 16 * (t1.2 - t.2) + 6 * 1; omega) hex (fun y hy => by simp only [List.mem_cons, List.not_mem_nil, or_false] at hy; subst hy; exact ⟨by decide, zxn 1, hws _ (zhas_mem (by decide +kernel)), hno.at _ (List.mem_of_getElem? (i := 0) rfl)⟩) (by decide) (by decide) (hws _ (zhas_mem (by decide +kernel))) (hws _ (zhas_mem (by decide +kernel))) fun a ad' H' locs' hx1 h1 hA1 hk1 => ?_
    refine lv_astore_n hx hb lh0_15 rfl hl (by decide) rfl fun ls hl => ?_
    refine lv_iconst (v := nI 2) hx hb lh0_16 (by decide) ?_
    refine W.widen (k := t1.2 - t.2 + zth (.inr 2)) (n := 16 * (t1.2 - t.2) + 6 * zth (.inr 2)) (by show 0 + (t1.2 - t.2 + 1) ≤ t1.2 - t.2 + 1; omega) (by show 0 + (16 * (t1.2 - t.2) + 6) ≤ 16 * (t1.2 - t.2) + 6 * 1; omega) ?_
    exact W.iret (v := nI 2) hx hb B.returns (fun u hu hW => ⟨⟨ad', f, rfl, hx1, by rw [hu]; exact h1.1, fun k i hk => ⟨hA1 k i hk, lout_ne hne hlt hA1 k i hk⟩, by rw [hu]; exact lout_kept hP (hk1 oa hlt (lout_no hne hlt)), fun y hy => by cases hy⟩, h1.2.2.F hu⟩) h1.2.2.2.2 lh0_17 B.notSynchronized
theorem lh1_0 : decode method_4_code 0 = .ok (.aload_n 3, 1) := by decide +kernel
theorem lh1_1 : decode method_4_code 1 = .ok (.iconst 0, 1) := by decide +kernel
theorem lh1_2 : decode method_4_code 2 = .ok (.aload_n 0, 1) := by decide +kernel
theorem lh1_3 : decode method_4_code 3 = .ok (.iload_n 1, 1) := by decide +kernel
theorem lh1_4 : decode method_4_code 4 = .ok (.iload_n 2, 1) := by decide +kernel
theorem lh1_5 : decode method_4_code 5 = .ok (.invokevirtual 17, 3) := by decide +kernel
theorem lh1_8 : decode method_4_code 8 = .ok (.i2l, 1) := by decide +kernel
theorem lh1_9 : decode method_4_code 9 = .ok (.lastore, 1) := by decide +kernel
theorem lh1_10 : decode method_4_code 10 = .ok (.goto 15, 3) := by decide +kernel
theorem lh1_13 : decode method_4_code 13 = .ok (.astore 4, 2) := by decide +kernel
theorem lh1_15 : decode method_4_code 15 = .ok (.iconst 1, 1) := by decide +kernel
theorem lh1_16 : decode method_4_code 16 = .ok (.ireturn, 1) := by decide +kernel
theorem lh1_17 : decode method_4_code 17 = .ok (.astore 4, 2) := by decide +kernel
theorem lh1_19 : decode method_4_code 19 = .ok (.iconst 2, 1) := by decide +kernel
theorem lh1_20 : decode method_4_code 20 = .ok (.ireturn, 1) := by decide +kernel
theorem lh1_21 : decode method_4_code 21 = .ok (.astore 4, 2) := by decide +kernel
theorem lh1_23 : decode method_4_code 23 = .ok (.iconst 3, 1) := by decide +kernel
theorem lh1_24 : decode method_4_code 24 = .ok (.ireturn, 1) := by decide +kernel
theorem lh1_25 : decode method_4_code 25 = .ok (.iconst 0, 1) := by decide +kernel
theorem lh1_26 : decode method_4_code 26 = .ok (.ireturn, 1) := by decide +kernel
abbrev lhs1 : List (Nat × Nat × Nat × Nat) := [(0, 10, 13, 13), (0, 10, 17, 15), (0, 10, 21, 21)]
def lhy1 : MethodName := ⟨"PageKeeperLaw", "get", "(LPageKeeper;II[J)I"⟩
set_option maxRecDepth 20000 in
theorem lhw1 : lw_tbl[645]? = some (.codeWith lhy1 method_4_code 5 (some .int) lhs1) := rfl
def lhws1 : List Cond := .codeWith lhy1 method_4_code 5 (some .int) lhs1 :: zWS
set_option maxRecDepth 100000 in
theorem lh1 {l : Launch} {D : va_G} {ty : Nat → ClassId} {ad : zA} {t t1 : zT} {o : zO} {N sz oa : Nat} {cL : ClassId} {f : Nat → Int64} {a1 a2 : Int32} (htr : ∀ e, l.admits e → e.platform.stackTraces = false) (hz : zrun N 1 (0, zent 1 (.inr (some (0, 0)) :: [.inl a1, .inl a2]), [], t) = some (o, t1)) (ho : (∃ x, o = .inl (some (.inl x))) ∨ o = .inr 1 ∨ o = .inr 2 ∨ o = .inr 3) (hm : t.2 ≤ t1.2) :
    Met l lhy1 lhws1 { frames := zFr 1 + 1, locals := 8 + (zlocs 1 + 11) + zLo 1, cells := t1.2 - t.2 + zth o, slots := 16 * (t1.2 - t.2) + 6 * zth o } (lPh D ty ad t [.inl a1, .inl a2] sz cL oa f) (fun _ st oc u => lQh D ty ad t.2 sz o t1 cL oa st oc u) (t1.2 - t.2 + zth o) (16 * (t1.2 - t.2) + 6 * zth o) (lFr ad t.2 sz oa) := by
  refine va_MetW (cc := method_4_code) (maxL := 5) (ret := some .int) (hh := lhs1) (by decide) rfl ?_
  intro p e s m args below meth c s₁ B hml hv
  obtain ⟨rfl, hno, hsz, hw, hK, hKL, hT, hP, hne⟩ := hv
  have hts : ∀ w ∈ lhws1, w.before _ s = true := atoms_spec B.pre
  have hws : ∀ w ∈ zWS, w.before _ s = true := fun w hw => hts w (List.mem_cons_of_mem _ hw)
  obtain ⟨mq, methq, cq, q0, q1, q2, -, -, q5, -⟩ := Cond.codeWith_spec (hts _ List.mem_cons_self)
  cases B.named.symm.trans q0
  have X0 := Stand.of_body B
  cases X0.method.symm.trans q1
  cases X0.code.symm.trans q2
  have hex : c.exceptionTable.toList = tableOf lhs1 := by rw [← table_eq c.exceptionTable.toList, q5]
  subst hsz
  have hlt := lout_lt hP
  have hAk : zAok (lFr ad t.2 s.heap.size oa) s := by
    refine ⟨fun q hq => Or.inl (Or.inr hq), fun q cell hq hst hA => ?_⟩
    rcases hA with hA | rfl
    · exact (zAr_ok hw).2 q cell hq hst hA
    · have h9 : s.heap[q]? = some (vp_cell cL (1, .inr (.inl f))) := hP 0 _ rfl
      rw [h9] at hq
      cases hq
      cases hst
  have C : lCx p l s m _ c D ty (lFr ad t.2 s.heap.size oa) method_4_code 5 := ⟨⟨B.exec, B.bytes, hml⟩, ⟨findClass_of_methodNamed B.named, hws, hK⟩, hT, hAk, htr⟩
  have h : lWd D ty (lFr ad t.2 s.heap.size oa) s ad t s.heap [] := ⟨hw, fun k i hk => Or.inl (Or.inl ⟨k, i, hk, rfl⟩), va_S.rf⟩
  have hx := B.exec
  have hb := B.bytes
  have hl := lv_entry ([.ref (ad 0 0), .int a1, .int a2, .ref oa]) (n := 5) (Nat.le_of_ble_eq_true rfl)
  show W _ _ _ _ _ _ _ _ _ _ _ _ _ _ _ (entryFrame m ([.ref (ad 0 0), .int a1, .int a2, .ref oa] : List Value).toArray 5)
  rw [lg_entry_eq]
  generalize (lg_sl ([.ref (ad 0 0), .int a1, .int a2, .ref oa]) ++ List.replicate (5 - (lg_sl ([.ref (ad 0 0), .int a1, .int a2, .ref oa])).length) Slot.unset).toArray = ls at hl ⊢
  have hl : lv_has ls 5 [(0, .ref (ad 0 0)), (1, .int a1), (2, .int a2), (3, .ref oa)] := hl
  refine lv_aload_n hx hb lh1_0 rfl (lv_at hl 3 rfl) ?_
  refine lv_iconst (v := 0) hx hb lh1_1 (by decide) ?_
  refine lv_aload_n hx hb lh1_2 rfl (lv_at hl 0 rfl) ?_
  refine lv_iload_n hx hb lh1_3 rfl (lv_at hl 1 rfl) ?_
  refine lv_iload_n hx hb lh1_4 rfl (lv_at hl 2 rfl) ?_
  have hlk : Cond.methodLink "PageKeeperLaw" 17 (zyy 1) ∈ zWS := zhas_mem (by decide +kernel)
  rcases ho with ⟨x, rfl⟩ | rfl | rfl | rfl
  · refine lcallV (N := N) (m' := 1) (n := 17) (k0 := 0) (i0 := 0) (as' := [.inl a1, .inl a2]) (rest := [.int 0, .ref oa]) C h (by decide) hlk (by decide +kernel) (by decide +kernel) (by show 3 = znar 1; decide +kernel) rfl (fun v hv => by simp only [List.mem_cons, List.not_mem_nil, or_false] at hv; rcases hv with rfl | rfl <;> rfl) hz (Nat.le_refl _) (Nat.le_refl _) hl.1 (Nat.le_of_ble_eq_true rfl) lh1_5 (by show 0 + (t1.2 - t.2) ≤ t1.2 - t.2 + 0; omega) (by show 0 + 16 * (t1.2 - t.2) ≤ 16 * (t1.2 - t.2) + 6 * 0; omega) fun ad' H' locs' hx1 h1 hA1 hk1 => ?_
    refine lv_i2l hx hb lh1_8 rfl ?_
    refine lstore C h1 hKL (lout_kept hP (hk1 oa hlt (lout_no hne hlt))) (lout_ne hne hlt hA1) (Or.inr rfl) lh1_9 fun H2 locs2 f2 hf2 h2 hP2 => ?_
    refine lv_goto (tgt := 25) hx hb lh1_10 (by decide) ?_
    refine lv_iconst (v := 0) hx hb lh1_25 (by decide) ?_
    refine W.widen (k := t1.2 - t.2 + zth (.inl (some (.inl x)))) (n := 16 * (t1.2 - t.2) + 6 * zth (.inl (some (.inl x)))) (by simp [zth]) (by simp [zth]) ?_
    exact W.iret (v := 0) hx hb B.returns (fun u hu hW => ⟨⟨ad', f2, rfl, hx1, by rw [hu]; exact h2.1, fun k i hk => ⟨hA1 k i hk, lout_ne hne hlt hA1 k i hk⟩, by rw [hu]; exact hP2, fun y hy => by cases hy; exact hf2⟩, h2.2.2.F hu⟩) h2.2.2.2.2 lh1_26 B.notSynchronized
  · refine lthrV (x := 1) (pre := []) (row := ⟨0, 10, 13, 13⟩) (post := [⟨0, 10, 17, 15⟩, ⟨0, 10, 21, 21⟩]) (N := N) (m' := 1) (n := 17) (k0 := 0) (i0 := 0) (as' := [.inl a1, .inl a2]) (rest := [.int 0, .ref oa]) C h (by decide) hlk (by decide +kernel) (by decide +kernel) (by show 3 = znar 1; decide +kernel) rfl (fun v hv => by simp only [List.mem_cons, List.not_mem_nil, or_false] at hv; rcases hv with rfl | rfl <;> rfl) hz (Nat.le_refl _) (Nat.le_refl _) hl.1 (Nat.le_of_ble_eq_true rfl) lh1_5 (by show 0 + (t1.2 - t.2 + 1) ≤ t1.2 - t.2 + 1; omega) (by show 0 + (16 * (t1.2 - t.2) + 6) ≤ 16 * (t1.2 - t.2) + 6 * 1; omega) hex (fun y hy => by cases hy) (by decide) (by decide) (hws _ (zhas_mem (by decide +kernel))) (hws _ (zhas_mem (by decide +kernel))) fun a ad' H' locs' hx1 h1 hA1 hk1 => ?_
    refine lv_astore hx hb lh1_13 hl (by decide) rfl fun ls hl => ?_
    refine lv_iconst (v := nI 1) hx hb lh1_15 (by decide) ?_
    refine W.widen (k := t1.2 - t.2 + zth (.inr 1)) (n := 16 * (t1.2 - t.2) + 6 * zth (.inr 1)) (by show 0 + (t1.2 - t.2 + 1) ≤ t1.2 - t.2 + 1; omega) (by show 0 + (16 * (t1.2 - t.2) + 6) ≤ 16 * (t1.2 - t.2) + 6 * 1; omega) ?_
    exact W.iret (v := nI 1) hx hb B.returns (fun u hu hW => ⟨⟨ad', f, rfl, hx1, by rw [hu]; exact h1.1, fun k i hk => ⟨hA1 k i hk, lout_ne hne hlt hA1 k i hk⟩, by rw [hu]; exact lout_kept hP (hk1 oa hlt (lout_no hne hlt)), fun y hy => by cases hy⟩, h1.2.2.F hu⟩) h1.2.2.2.2 lh1_16 B.notSynchronized
  · refine lthrV (x := 2) (pre := [⟨0, 10, 13, 13⟩]) (row := ⟨0, 10, 17, 15⟩) (post := [⟨0, 10, 21, 21⟩]) (N := N) (m' := 1) (n := 17) (k0 := 0) (i0 := 0) (as' := [.inl a1, .inl a2]) (rest := [.int 0, .ref oa]) C h (by decide) hlk (by decide +kernel) (by decide +kernel) (by show 3 = znar 1; decide +kernel) rfl (fun v hv => by simp only [List.mem_cons, List.not_mem_nil, or_false] at hv; rcases hv with rfl | rfl <;> rfl) hz (Nat.le_refl _) (Nat.le_refl _) hl.1 (Nat.le_of_ble_eq_true rfl) lh1_5 (by show 0 + (t1.2 - t.2 + 1) ≤ t1.2 - t.2 + 1; omega) (by show 0 + (16 * (t1.2 - t.2) + 6) ≤ 16 * (t1.2 - t.2) + 6 * 1; omega) hex (fun y hy => by simp only [List.mem_cons, List.not_mem_nil, or_false] at hy; subst hy; exact ⟨by decide, zxn 1, hws _ (zhas_mem (by decide +kernel)), hno.at _ (List.mem_of_getElem? (i := 0) rfl)⟩) (by decide) (by decide) (hws _ (zhas_mem (by decide +kernel))) (hws _ (zhas_mem (by decide +kernel))) fun a ad' H' locs' hx1 h1 hA1 hk1 => ?_
    refine lv_astore hx hb lh1_17 hl (by decide) rfl fun ls hl => ?_
    refine lv_iconst (v := nI 2) hx hb lh1_19 (by decide) ?_
    refine W.widen (k := t1.2 - t.2 + zth (.inr 2)) (n := 16 * (t1.2 - t.2) + 6 * zth (.inr 2)) (by show 0 + (t1.2 - t.2 + 1) ≤ t1.2 - t.2 + 1; omega) (by show 0 + (16 * (t1.2 - t.2) + 6) ≤ 16 * (t1.2 - t.2) + 6 * 1; omega) ?_
    exact W.iret (v := nI 2) hx hb B.returns (fun u hu hW => ⟨⟨ad', f, rfl, hx1, by rw [hu]; exact h1.1, fun k i hk => ⟨hA1 k i hk, lout_ne hne hlt hA1 k i hk⟩, by rw [hu]; exact lout_kept hP (hk1 oa hlt (lout_no hne hlt)), fun y hy => by cases hy⟩, h1.2.2.F hu⟩) h1.2.2.2.2 lh1_20 B.notSynchronized
  · refine lthrV (x := 3) (pre := [⟨0, 10, 13, 13⟩, ⟨0, 10, 17, 15⟩]) (row := ⟨0, 10, 21, 21⟩) (post := []) (N := N) (m' := 1) (n := 17) (k0 := 0) (i0 := 0) (as' := [.inl a1, .inl a2]) (rest := [.int 0, .ref oa]) C h (by decide) hlk (by decide +kernel) (by decide +kernel) (by show 3 = znar 1; decide +kernel) rfl (fun v hv => by simp only [List.mem_cons, List.not_mem_nil, or_false] at hv; rcases hv with rfl | rfl <;> rfl) hz (Nat.le_refl _) (Nat.le_refl _) hl.1 (Nat.le_of_ble_eq_true rfl) lh1_5 (by show 0 + (t1.2 - t.2 + 1) ≤ t1.2 - t.2 + 1; omega) (by show 0 + (16 * (t1.2 - t.2) + 6) ≤ 16 * (t1.2 - t.2) + 6 * 1; omega) hex (fun y hy => by
      simp only [List.mem_cons, List.not_mem_nil, or_false] at hy
      rcases hy with rfl | rfl
      · exact ⟨by decide, zxn 1, hws _ (zhas_mem (by decide +kernel)), hno.at _ (List.mem_of_getElem? (i := 1) rfl)⟩
      · exact ⟨by decide, zxn 2, hws _ (zhas_mem (by decide +kernel)), hno.at _ (List.mem_of_getElem? (i := 2) rfl)⟩) (by decide) (by decide) (hws _ (zhas_mem (by decide +kernel))) (hws _ (zhas_mem (by decide +kernel))) fun a ad' H' locs' hx1 h1 hA1 hk1 => ?_
    refine lv_astore hx hb lh1_21 hl (by decide) rfl fun ls hl => ?_
    refine lv_iconst (v := nI 3) hx hb lh1_23 (by decide) ?_
    refine W.widen (k := t1.2 - t.2 + zth (.inr 3)) (n := 16 * (t1.2 - t.2) + 6 * zth (.inr 3)) (by show 0 + (t1.2 - t.2 + 1) ≤ t1.2 - t.2 + 1; omega) (by show 0 + (16 * (t1.2 - t.2) + 6) ≤ 16 * (t1.2 - t.2) + 6 * 1; omega) ?_
    exact W.iret (v := nI 3) hx hb B.returns (fun u hu hW => ⟨⟨ad', f, rfl, hx1, by rw [hu]; exact h1.1, fun k i hk => ⟨hA1 k i hk, lout_ne hne hlt hA1 k i hk⟩, by rw [hu]; exact lout_kept hP (hk1 oa hlt (lout_no hne hlt)), fun y hy => by cases hy⟩, h1.2.2.F hu⟩) h1.2.2.2.2 lh1_24 B.notSynchronized
theorem lh2_0 : decode method_5_code 0 = .ok (.aload 4, 2) := by decide +kernel
theorem lh2_2 : decode method_5_code 2 = .ok (.iconst 0, 1) := by decide +kernel
theorem lh2_3 : decode method_5_code 3 = .ok (.aload_n 0, 1) := by decide +kernel
theorem lh2_4 : decode method_5_code 4 = .ok (.iload_n 1, 1) := by decide +kernel
theorem lh2_5 : decode method_5_code 5 = .ok (.iload_n 2, 1) := by decide +kernel
theorem lh2_6 : decode method_5_code 6 = .ok (.iload_n 3, 1) := by decide +kernel
theorem lh2_7 : decode method_5_code 7 = .ok (.invokevirtual 23, 3) := by decide +kernel
theorem lh2_10 : decode method_5_code 10 = .ok (.i2l, 1) := by decide +kernel
theorem lh2_11 : decode method_5_code 11 = .ok (.lastore, 1) := by decide +kernel
theorem lh2_12 : decode method_5_code 12 = .ok (.goto 11, 3) := by decide +kernel
theorem lh2_15 : decode method_5_code 15 = .ok (.astore 5, 2) := by decide +kernel
theorem lh2_17 : decode method_5_code 17 = .ok (.iconst 1, 1) := by decide +kernel
theorem lh2_18 : decode method_5_code 18 = .ok (.ireturn, 1) := by decide +kernel
theorem lh2_19 : decode method_5_code 19 = .ok (.astore 5, 2) := by decide +kernel
theorem lh2_21 : decode method_5_code 21 = .ok (.iconst 2, 1) := by decide +kernel
theorem lh2_22 : decode method_5_code 22 = .ok (.ireturn, 1) := by decide +kernel
theorem lh2_23 : decode method_5_code 23 = .ok (.iconst 0, 1) := by decide +kernel
theorem lh2_24 : decode method_5_code 24 = .ok (.ireturn, 1) := by decide +kernel
abbrev lhs2 : List (Nat × Nat × Nat × Nat) := [(0, 12, 15, 13), (0, 12, 19, 15)]
def lhy2 : MethodName := ⟨"PageKeeperLaw", "put", "(LPageKeeper;III[J)I"⟩
set_option maxRecDepth 20000 in
theorem lhw2 : lw_tbl[685]? = some (.codeWith lhy2 method_5_code 6 (some .int) lhs2) := rfl
def lhws2 : List Cond := .codeWith lhy2 method_5_code 6 (some .int) lhs2 :: zWS
set_option maxRecDepth 100000 in
theorem lh2 {l : Launch} {D : va_G} {ty : Nat → ClassId} {ad : zA} {t t1 : zT} {o : zO} {N sz oa : Nat} {cL : ClassId} {f : Nat → Int64} {a1 a2 a3 : Int32} (htr : ∀ e, l.admits e → e.platform.stackTraces = false) (hz : zrun N 2 (0, zent 2 (.inr (some (0, 0)) :: [.inl a1, .inl a2, .inl a3]), [], t) = some (o, t1)) (ho : (∃ x, o = .inl (some (.inl x))) ∨ o = .inr 1 ∨ o = .inr 2) (hm : t.2 ≤ t1.2) :
    Met l lhy2 lhws2 { frames := zFr 2 + 1, locals := 8 + (zlocs 2 + 11) + zLo 2, cells := t1.2 - t.2 + zth o, slots := 16 * (t1.2 - t.2) + 6 * zth o } (lPh D ty ad t [.inl a1, .inl a2, .inl a3] sz cL oa f) (fun _ st oc u => lQh D ty ad t.2 sz o t1 cL oa st oc u) (t1.2 - t.2 + zth o) (16 * (t1.2 - t.2) + 6 * zth o) (lFr ad t.2 sz oa) := by
  refine va_MetW (cc := method_5_code) (maxL := 6) (ret := some .int) (hh := lhs2) (by decide) rfl ?_
  intro p e s m args below meth c s₁ B hml hv
  obtain ⟨rfl, hno, hsz, hw, hK, hKL, hT, hP, hne⟩ := hv
  have hts : ∀ w ∈ lhws2, w.before _ s = true := atoms_spec B.pre
  have hws : ∀ w ∈ zWS, w.before _ s = true := fun w hw => hts w (List.mem_cons_of_mem _ hw)
  obtain ⟨mq, methq, cq, q0, q1, q2, -, -, q5, -⟩ := Cond.codeWith_spec (hts _ List.mem_cons_self)
  cases B.named.symm.trans q0
  have X0 := Stand.of_body B
  cases X0.method.symm.trans q1
  cases X0.code.symm.trans q2
  have hex : c.exceptionTable.toList = tableOf lhs2 := by rw [← table_eq c.exceptionTable.toList, q5]
  subst hsz
  have hlt := lout_lt hP
  have hAk : zAok (lFr ad t.2 s.heap.size oa) s := by
    refine ⟨fun q hq => Or.inl (Or.inr hq), fun q cell hq hst hA => ?_⟩
    rcases hA with hA | rfl
    · exact (zAr_ok hw).2 q cell hq hst hA
    · have h9 : s.heap[q]? = some (vp_cell cL (1, .inr (.inl f))) := hP 0 _ rfl
      rw [h9] at hq
      cases hq
      cases hst
  have C : lCx p l s m _ c D ty (lFr ad t.2 s.heap.size oa) method_5_code 6 := ⟨⟨B.exec, B.bytes, hml⟩, ⟨findClass_of_methodNamed B.named, hws, hK⟩, hT, hAk, htr⟩
  have h : lWd D ty (lFr ad t.2 s.heap.size oa) s ad t s.heap [] := ⟨hw, fun k i hk => Or.inl (Or.inl ⟨k, i, hk, rfl⟩), va_S.rf⟩
  have hx := B.exec
  have hb := B.bytes
  have hl := lv_entry ([.ref (ad 0 0), .int a1, .int a2, .int a3, .ref oa]) (n := 6) (Nat.le_of_ble_eq_true rfl)
  show W _ _ _ _ _ _ _ _ _ _ _ _ _ _ _ (entryFrame m ([.ref (ad 0 0), .int a1, .int a2, .int a3, .ref oa] : List Value).toArray 6)
  rw [lg_entry_eq]
  generalize (lg_sl ([.ref (ad 0 0), .int a1, .int a2, .int a3, .ref oa]) ++ List.replicate (6 - (lg_sl ([.ref (ad 0 0), .int a1, .int a2, .int a3, .ref oa])).length) Slot.unset).toArray = ls at hl ⊢
  have hl : lv_has ls 6 [(0, .ref (ad 0 0)), (1, .int a1), (2, .int a2), (3, .int a3), (4, .ref oa)] := hl
  refine lv_aload hx hb lh2_0 (lv_at hl 4 rfl) ?_
  refine lv_iconst (v := 0) hx hb lh2_2 (by decide) ?_
  refine lv_aload_n hx hb lh2_3 rfl (lv_at hl 0 rfl) ?_
  refine lv_iload_n hx hb lh2_4 rfl (lv_at hl 1 rfl) ?_
  refine lv_iload_n hx hb lh2_5 rfl (lv_at hl 2 rfl) ?_
  refine lv_iload_n hx hb lh2_6 rfl (lv_at hl 3 rfl) ?_
  have hlk : Cond.methodLink "PageKeeperLaw" 23 (zyy 2) ∈ zWS := zhas_mem (by decide +kernel)
  rcases ho with ⟨x, rfl⟩ | rfl | rfl
  · refine lcallV (N := N) (m' := 2) (n := 23) (k0 := 0) (i0 := 0) (as' := [.inl a1, .inl a2, .inl a3]) (rest := [.int 0, .ref oa]) C h (by decide) hlk (by decide +kernel) (by decide +kernel) (by show 4 = znar 2; decide +kernel) rfl (fun v hv => by simp only [List.mem_cons, List.not_mem_nil, or_false] at hv; rcases hv with rfl | rfl | rfl <;> rfl) hz (Nat.le_refl _) (Nat.le_refl _) hl.1 (Nat.le_of_ble_eq_true rfl) lh2_7 (by show 0 + (t1.2 - t.2) ≤ t1.2 - t.2 + 0; omega) (by show 0 + 16 * (t1.2 - t.2) ≤ 16 * (t1.2 - t.2) + 6 * 0; omega) fun ad' H' locs' hx1 h1 hA1 hk1 => ?_
    refine lv_i2l hx hb lh2_10 rfl ?_
    refine lstore C h1 hKL (lout_kept hP (hk1 oa hlt (lout_no hne hlt))) (lout_ne hne hlt hA1) (Or.inr rfl) lh2_11 fun H2 locs2 f2 hf2 h2 hP2 => ?_
    refine lv_goto (tgt := 23) hx hb lh2_12 (by decide) ?_
    refine lv_iconst (v := 0) hx hb lh2_23 (by decide) ?_
    refine W.widen (k := t1.2 - t.2 + zth (.inl (some (.inl x)))) (n := 16 * (t1.2 - t.2) + 6 * zth (.inl (some (.inl x)))) (by simp [zth]) (by simp [zth]) ?_
    exact W.iret (v := 0) hx hb B.returns (fun u hu hW => ⟨⟨ad', f2, rfl, hx1, by rw [hu]; exact h2.1, fun k i hk => ⟨hA1 k i hk, lout_ne hne hlt hA1 k i hk⟩, by rw [hu]; exact hP2, fun y hy => by cases hy; exact hf2⟩, h2.2.2.F hu⟩) h2.2.2.2.2 lh2_24 B.notSynchronized
  · refine lthrV (x := 1) (pre := []) (row := ⟨0, 12, 15, 13⟩) (post := [⟨0, 12, 19, 15⟩]) (N := N) (m' := 2) (n := 23) (k0 := 0) (i0 := 0) (as' := [.inl a1, .inl a2, .inl a3]) (rest := [.int 0, .ref oa]) C h (by decide) hlk (by decide +kernel) (by decide +kernel) (by show 4 = znar 2; decide +kernel) rfl (fun v hv => by simp only [List.mem_cons, List.not_mem_nil, or_false] at hv; rcases hv with rfl | rfl | rfl <;> rfl) hz (Nat.le_refl _) (Nat.le_refl _) hl.1 (Nat.le_of_ble_eq_true rfl) lh2_7 (by show 0 + (t1.2 - t.2 + 1) ≤ t1.2 - t.2 + 1; omega) (by show 0 + (16 * (t1.2 - t.2) + 6) ≤ 16 * (t1.2 - t.2) + 6 * 1; omega) hex (fun y hy => by cases hy) (by decide) (by decide) (hws _ (zhas_mem (by decide +kernel))) (hws _ (zhas_mem (by decide +kernel))) fun a ad' H' locs' hx1 h1 hA1 hk1 => ?_
    refine lv_astore hx hb lh2_15 hl (by decide) rfl fun ls hl => ?_
    refine lv_iconst (v := nI 1) hx hb lh2_17 (by decide) ?_
    refine W.widen (k := t1.2 - t.2 + zth (.inr 1)) (n := 16 * (t1.2 - t.2) + 6 * zth (.inr 1)) (by show 0 + (t1.2 - t.2 + 1) ≤ t1.2 - t.2 + 1; omega) (by show 0 + (16 * (t1.2 - t.2) + 6) ≤ 16 * (t1.2 - t.2) + 6 * 1; omega) ?_
    exact W.iret (v := nI 1) hx hb B.returns (fun u hu hW => ⟨⟨ad', f, rfl, hx1, by rw [hu]; exact h1.1, fun k i hk => ⟨hA1 k i hk, lout_ne hne hlt hA1 k i hk⟩, by rw [hu]; exact lout_kept hP (hk1 oa hlt (lout_no hne hlt)), fun y hy => by cases hy⟩, h1.2.2.F hu⟩) h1.2.2.2.2 lh2_18 B.notSynchronized
  · refine lthrV (x := 2) (pre := [⟨0, 12, 15, 13⟩]) (row := ⟨0, 12, 19, 15⟩) (post := []) (N := N) (m' := 2) (n := 23) (k0 := 0) (i0 := 0) (as' := [.inl a1, .inl a2, .inl a3]) (rest := [.int 0, .ref oa]) C h (by decide) hlk (by decide +kernel) (by decide +kernel) (by show 4 = znar 2; decide +kernel) rfl (fun v hv => by simp only [List.mem_cons, List.not_mem_nil, or_false] at hv; rcases hv with rfl | rfl | rfl <;> rfl) hz (Nat.le_refl _) (Nat.le_refl _) hl.1 (Nat.le_of_ble_eq_true rfl) lh2_7 (by show 0 + (t1.2 - t.2 + 1) ≤ t1.2 - t.2 + 1; omega) (by show 0 + (16 * (t1.2 - t.2) + 6) ≤ 16 * (t1.2 - t.2) + 6 * 1; omega) hex (fun y hy => by simp only [List.mem_cons, List.not_mem_nil, or_false] at hy; subst hy; exact ⟨by decide, zxn 1, hws _ (zhas_mem (by decide +kernel)), hno.at _ (List.mem_of_getElem? (i := 0) rfl)⟩) (by decide) (by decide) (hws _ (zhas_mem (by decide +kernel))) (hws _ (zhas_mem (by decide +kernel))) fun a ad' H' locs' hx1 h1 hA1 hk1 => ?_
    refine lv_astore hx hb lh2_19 hl (by decide) rfl fun ls hl => ?_
    refine lv_iconst (v := nI 2) hx hb lh2_21 (by decide) ?_
    refine W.widen (k := t1.2 - t.2 + zth (.inr 2)) (n := 16 * (t1.2 - t.2) + 6 * zth (.inr 2)) (by show 0 + (t1.2 - t.2 + 1) ≤ t1.2 - t.2 + 1; omega) (by show 0 + (16 * (t1.2 - t.2) + 6) ≤ 16 * (t1.2 - t.2) + 6 * 1; omega) ?_
    exact W.iret (v := nI 2) hx hb B.returns (fun u hu hW => ⟨⟨ad', f, rfl, hx1, by rw [hu]; exact h1.1, fun k i hk => ⟨hA1 k i hk, lout_ne hne hlt hA1 k i hk⟩, by rw [hu]; exact lout_kept hP (hk1 oa hlt (lout_no hne hlt)), fun y hy => by cases hy⟩, h1.2.2.F hu⟩) h1.2.2.2.2 lh2_22 B.notSynchronized
theorem lh3_0 : decode method_6_code 0 = .ok (.aload_n 3, 1) := by decide +kernel
theorem lh3_1 : decode method_6_code 1 = .ok (.iconst 0, 1) := by decide +kernel
theorem lh3_2 : decode method_6_code 2 = .ok (.aload_n 0, 1) := by decide +kernel
theorem lh3_3 : decode method_6_code 3 = .ok (.iload_n 1, 1) := by decide +kernel
theorem lh3_4 : decode method_6_code 4 = .ok (.iload_n 2, 1) := by decide +kernel
theorem lh3_5 : decode method_6_code 5 = .ok (.invokevirtual 27, 3) := by decide +kernel
theorem lh3_8 : decode method_6_code 8 = .ok (.i2l, 1) := by decide +kernel
theorem lh3_9 : decode method_6_code 9 = .ok (.lastore, 1) := by decide +kernel
theorem lh3_10 : decode method_6_code 10 = .ok (.goto 15, 3) := by decide +kernel
theorem lh3_13 : decode method_6_code 13 = .ok (.astore 4, 2) := by decide +kernel
theorem lh3_15 : decode method_6_code 15 = .ok (.iconst 1, 1) := by decide +kernel
theorem lh3_16 : decode method_6_code 16 = .ok (.ireturn, 1) := by decide +kernel
theorem lh3_17 : decode method_6_code 17 = .ok (.astore 4, 2) := by decide +kernel
theorem lh3_19 : decode method_6_code 19 = .ok (.iconst 2, 1) := by decide +kernel
theorem lh3_20 : decode method_6_code 20 = .ok (.ireturn, 1) := by decide +kernel
theorem lh3_21 : decode method_6_code 21 = .ok (.astore 4, 2) := by decide +kernel
theorem lh3_23 : decode method_6_code 23 = .ok (.iconst 3, 1) := by decide +kernel
theorem lh3_24 : decode method_6_code 24 = .ok (.ireturn, 1) := by decide +kernel
theorem lh3_25 : decode method_6_code 25 = .ok (.iconst 0, 1) := by decide +kernel
theorem lh3_26 : decode method_6_code 26 = .ok (.ireturn, 1) := by decide +kernel
abbrev lhs3 : List (Nat × Nat × Nat × Nat) := [(0, 10, 13, 13), (0, 10, 17, 15), (0, 10, 21, 21)]
def lhy3 : MethodName := ⟨"PageKeeperLaw", "remove", "(LPageKeeper;II[J)I"⟩
set_option maxRecDepth 20000 in
theorem lhw3 : lw_tbl[696]? = some (.codeWith lhy3 method_6_code 5 (some .int) lhs3) := rfl
def lhws3 : List Cond := .codeWith lhy3 method_6_code 5 (some .int) lhs3 :: zWS
set_option maxRecDepth 100000 in
theorem lh3 {l : Launch} {D : va_G} {ty : Nat → ClassId} {ad : zA} {t t1 : zT} {o : zO} {N sz oa : Nat} {cL : ClassId} {f : Nat → Int64} {a1 a2 : Int32} (htr : ∀ e, l.admits e → e.platform.stackTraces = false) (hz : zrun N 3 (0, zent 3 (.inr (some (0, 0)) :: [.inl a1, .inl a2]), [], t) = some (o, t1)) (ho : (∃ x, o = .inl (some (.inl x))) ∨ o = .inr 1 ∨ o = .inr 2 ∨ o = .inr 3) (hm : t.2 ≤ t1.2) :
    Met l lhy3 lhws3 { frames := zFr 3 + 1, locals := 8 + (zlocs 3 + 11) + zLo 3, cells := t1.2 - t.2 + zth o, slots := 16 * (t1.2 - t.2) + 6 * zth o } (lPh D ty ad t [.inl a1, .inl a2] sz cL oa f) (fun _ st oc u => lQh D ty ad t.2 sz o t1 cL oa st oc u) (t1.2 - t.2 + zth o) (16 * (t1.2 - t.2) + 6 * zth o) (lFr ad t.2 sz oa) := by
  refine va_MetW (cc := method_6_code) (maxL := 5) (ret := some .int) (hh := lhs3) (by decide) rfl ?_
  intro p e s m args below meth c s₁ B hml hv
  obtain ⟨rfl, hno, hsz, hw, hK, hKL, hT, hP, hne⟩ := hv
  have hts : ∀ w ∈ lhws3, w.before _ s = true := atoms_spec B.pre
  have hws : ∀ w ∈ zWS, w.before _ s = true := fun w hw => hts w (List.mem_cons_of_mem _ hw)
  obtain ⟨mq, methq, cq, q0, q1, q2, -, -, q5, -⟩ := Cond.codeWith_spec (hts _ List.mem_cons_self)
  cases B.named.symm.trans q0
  have X0 := Stand.of_body B
  cases X0.method.symm.trans q1
  cases X0.code.symm.trans q2
  have hex : c.exceptionTable.toList = tableOf lhs3 := by rw [← table_eq c.exceptionTable.toList, q5]
  subst hsz
  have hlt := lout_lt hP
  have hAk : zAok (lFr ad t.2 s.heap.size oa) s := by
    refine ⟨fun q hq => Or.inl (Or.inr hq), fun q cell hq hst hA => ?_⟩
    rcases hA with hA | rfl
    · exact (zAr_ok hw).2 q cell hq hst hA
    · have h9 : s.heap[q]? = some (vp_cell cL (1, .inr (.inl f))) := hP 0 _ rfl
      rw [h9] at hq
      cases hq
      cases hst
  have C : lCx p l s m _ c D ty (lFr ad t.2 s.heap.size oa) method_6_code 5 := ⟨⟨B.exec, B.bytes, hml⟩, ⟨findClass_of_methodNamed B.named, hws, hK⟩, hT, hAk, htr⟩
  have h : lWd D ty (lFr ad t.2 s.heap.size oa) s ad t s.heap [] := ⟨hw, fun k i hk => Or.inl (Or.inl ⟨k, i, hk, rfl⟩), va_S.rf⟩
  have hx := B.exec
  have hb := B.bytes
  have hl := lv_entry ([.ref (ad 0 0), .int a1, .int a2, .ref oa]) (n := 5) (Nat.le_of_ble_eq_true rfl)
  show W _ _ _ _ _ _ _ _ _ _ _ _ _ _ _ (entryFrame m ([.ref (ad 0 0), .int a1, .int a2, .ref oa] : List Value).toArray 5)
  rw [lg_entry_eq]
  generalize (lg_sl ([.ref (ad 0 0), .int a1, .int a2, .ref oa]) ++ List.replicate (5 - (lg_sl ([.ref (ad 0 0), .int a1, .int a2, .ref oa])).length) Slot.unset).toArray = ls at hl ⊢
  have hl : lv_has ls 5 [(0, .ref (ad 0 0)), (1, .int a1), (2, .int a2), (3, .ref oa)] := hl
  refine lv_aload_n hx hb lh3_0 rfl (lv_at hl 3 rfl) ?_
  refine lv_iconst (v := 0) hx hb lh3_1 (by decide) ?_
  refine lv_aload_n hx hb lh3_2 rfl (lv_at hl 0 rfl) ?_
  refine lv_iload_n hx hb lh3_3 rfl (lv_at hl 1 rfl) ?_
  refine lv_iload_n hx hb lh3_4 rfl (lv_at hl 2 rfl) ?_
  have hlk : Cond.methodLink "PageKeeperLaw" 27 (zyy 3) ∈ zWS := zhas_mem (by decide +kernel)
  rcases ho with ⟨x, rfl⟩ | rfl | rfl | rfl
  · refine lcallV (N := N) (m' := 3) (n := 27) (k0 := 0) (i0 := 0) (as' := [.inl a1, .inl a2]) (rest := [.int 0, .ref oa]) C h (by decide) hlk (by decide +kernel) (by decide +kernel) (by show 3 = znar 3; decide +kernel) rfl (fun v hv => by simp only [List.mem_cons, List.not_mem_nil, or_false] at hv; rcases hv with rfl | rfl <;> rfl) hz (Nat.le_refl _) (Nat.le_refl _) hl.1 (Nat.le_of_ble_eq_true rfl) lh3_5 (by show 0 + (t1.2 - t.2) ≤ t1.2 - t.2 + 0; omega) (by show 0 + 16 * (t1.2 - t.2) ≤ 16 * (t1.2 - t.2) + 6 * 0; omega) fun ad' H' locs' hx1 h1 hA1 hk1 => ?_
    refine lv_i2l hx hb lh3_8 rfl ?_
    refine lstore C h1 hKL (lout_kept hP (hk1 oa hlt (lout_no hne hlt))) (lout_ne hne hlt hA1) (Or.inr rfl) lh3_9 fun H2 locs2 f2 hf2 h2 hP2 => ?_
    refine lv_goto (tgt := 25) hx hb lh3_10 (by decide) ?_
    refine lv_iconst (v := 0) hx hb lh3_25 (by decide) ?_
    refine W.widen (k := t1.2 - t.2 + zth (.inl (some (.inl x)))) (n := 16 * (t1.2 - t.2) + 6 * zth (.inl (some (.inl x)))) (by simp [zth]) (by simp [zth]) ?_
    exact W.iret (v := 0) hx hb B.returns (fun u hu hW => ⟨⟨ad', f2, rfl, hx1, by rw [hu]; exact h2.1, fun k i hk => ⟨hA1 k i hk, lout_ne hne hlt hA1 k i hk⟩, by rw [hu]; exact hP2, fun y hy => by cases hy; exact hf2⟩, h2.2.2.F hu⟩) h2.2.2.2.2 lh3_26 B.notSynchronized
  · refine lthrV (x := 1) (pre := []) (row := ⟨0, 10, 13, 13⟩) (post := [⟨0, 10, 17, 15⟩, ⟨0, 10, 21, 21⟩]) (N := N) (m' := 3) (n := 27) (k0 := 0) (i0 := 0) (as' := [.inl a1, .inl a2]) (rest := [.int 0, .ref oa]) C h (by decide) hlk (by decide +kernel) (by decide +kernel) (by show 3 = znar 3; decide +kernel) rfl (fun v hv => by simp only [List.mem_cons, List.not_mem_nil, or_false] at hv; rcases hv with rfl | rfl <;> rfl) hz (Nat.le_refl _) (Nat.le_refl _) hl.1 (Nat.le_of_ble_eq_true rfl) lh3_5 (by show 0 + (t1.2 - t.2 + 1) ≤ t1.2 - t.2 + 1; omega) (by show 0 + (16 * (t1.2 - t.2) + 6) ≤ 16 * (t1.2 - t.2) + 6 * 1; omega) hex (fun y hy => by cases hy) (by decide) (by decide) (hws _ (zhas_mem (by decide +kernel))) (hws _ (zhas_mem (by decide +kernel))) fun a ad' H' locs' hx1 h1 hA1 hk1 => ?_
    refine lv_astore hx hb lh3_13 hl (by decide) rfl fun ls hl => ?_
    refine lv_iconst (v := nI 1) hx hb lh3_15 (by decide) ?_
    refine W.widen (k := t1.2 - t.2 + zth (.inr 1)) (n := 16 * (t1.2 - t.2) + 6 * zth (.inr 1)) (by show 0 + (t1.2 - t.2 + 1) ≤ t1.2 - t.2 + 1; omega) (by show 0 + (16 * (t1.2 - t.2) + 6) ≤ 16 * (t1.2 - t.2) + 6 * 1; omega) ?_
    exact W.iret (v := nI 1) hx hb B.returns (fun u hu hW => ⟨⟨ad', f, rfl, hx1, by rw [hu]; exact h1.1, fun k i hk => ⟨hA1 k i hk, lout_ne hne hlt hA1 k i hk⟩, by rw [hu]; exact lout_kept hP (hk1 oa hlt (lout_no hne hlt)), fun y hy => by cases hy⟩, h1.2.2.F hu⟩) h1.2.2.2.2 lh3_16 B.notSynchronized
  · refine lthrV (x := 2) (pre := [⟨0, 10, 13, 13⟩]) (row := ⟨0, 10, 17, 15⟩) (post := [⟨0, 10, 21, 21⟩]) (N := N) (m' := 3) (n := 27) (k0 := 0) (i0 := 0) (as' := [.inl a1, .inl a2]) (rest := [.int 0, .ref oa]) C h (by decide) hlk (by decide +kernel) (by decide +kernel) (by show 3 = znar 3; decide +kernel) rfl (fun v hv => by simp only [List.mem_cons, List.not_mem_nil, or_false] at hv; rcases hv with rfl | rfl <;> rfl) hz (Nat.le_refl _) (Nat.le_refl _) hl.1 (Nat.le_of_ble_eq_true rfl) lh3_5 (by show 0 + (t1.2 - t.2 + 1) ≤ t1.2 - t.2 + 1; omega) (by show 0 + (16 * (t1.2 - t.2) + 6) ≤ 16 * (t1.2 - t.2) + 6 * 1; omega) hex (fun y hy => by simp only [List.mem_cons, List.not_mem_nil, or_false] at hy; subst hy; exact ⟨by decide, zxn 1, hws _ (zhas_mem (by decide +kernel)), hno.at _ (List.mem_of_getElem? (i := 0) rfl)⟩) (by decide) (by decide) (hws _ (zhas_mem (by decide +kernel))) (hws _ (zhas_mem (by decide +kernel))) fun a ad' H' locs' hx1 h1 hA1 hk1 => ?_
    refine lv_astore hx hb lh3_17 hl (by decide) rfl fun ls hl => ?_
    refine lv_iconst (v := nI 2) hx hb lh3_19 (by decide) ?_
    refine W.widen (k := t1.2 - t.2 + zth (.inr 2)) (n := 16 * (t1.2 - t.2) + 6 * zth (.inr 2)) (by show 0 + (t1.2 - t.2 + 1) ≤ t1.2 - t.2 + 1; omega) (by show 0 + (16 * (t1.2 - t.2) + 6) ≤ 16 * (t1.2 - t.2) + 6 * 1; omega) ?_
    exact W.iret (v := nI 2) hx hb B.returns (fun u hu hW => ⟨⟨ad', f, rfl, hx1, by rw [hu]; exact h1.1, fun k i hk => ⟨hA1 k i hk, lout_ne hne hlt hA1 k i hk⟩, by rw [hu]; exact lout_kept hP (hk1 oa hlt (lout_no hne hlt)), fun y hy => by cases hy⟩, h1.2.2.F hu⟩) h1.2.2.2.2 lh3_20 B.notSynchronized
  · refine lthrV (x := 3) (pre := [⟨0, 10, 13, 13⟩, ⟨0, 10, 17, 15⟩]) (row := ⟨0, 10, 21, 21⟩) (post := []) (N := N) (m' := 3) (n := 27) (k0 := 0) (i0 := 0) (as' := [.inl a1, .inl a2]) (rest := [.int 0, .ref oa]) C h (by decide) hlk (by decide +kernel) (by decide +kernel) (by show 3 = znar 3; decide +kernel) rfl (fun v hv => by simp only [List.mem_cons, List.not_mem_nil, or_false] at hv; rcases hv with rfl | rfl <;> rfl) hz (Nat.le_refl _) (Nat.le_refl _) hl.1 (Nat.le_of_ble_eq_true rfl) lh3_5 (by show 0 + (t1.2 - t.2 + 1) ≤ t1.2 - t.2 + 1; omega) (by show 0 + (16 * (t1.2 - t.2) + 6) ≤ 16 * (t1.2 - t.2) + 6 * 1; omega) hex (fun y hy => by
      simp only [List.mem_cons, List.not_mem_nil, or_false] at hy
      rcases hy with rfl | rfl
      · exact ⟨by decide, zxn 1, hws _ (zhas_mem (by decide +kernel)), hno.at _ (List.mem_of_getElem? (i := 1) rfl)⟩
      · exact ⟨by decide, zxn 2, hws _ (zhas_mem (by decide +kernel)), hno.at _ (List.mem_of_getElem? (i := 2) rfl)⟩) (by decide) (by decide) (hws _ (zhas_mem (by decide +kernel))) (hws _ (zhas_mem (by decide +kernel))) fun a ad' H' locs' hx1 h1 hA1 hk1 => ?_
    refine lv_astore hx hb lh3_21 hl (by decide) rfl fun ls hl => ?_
    refine lv_iconst (v := nI 3) hx hb lh3_23 (by decide) ?_
    refine W.widen (k := t1.2 - t.2 + zth (.inr 3)) (n := 16 * (t1.2 - t.2) + 6 * zth (.inr 3)) (by show 0 + (t1.2 - t.2 + 1) ≤ t1.2 - t.2 + 1; omega) (by show 0 + (16 * (t1.2 - t.2) + 6) ≤ 16 * (t1.2 - t.2) + 6 * 1; omega) ?_
    exact W.iret (v := nI 3) hx hb B.returns (fun u hu hW => ⟨⟨ad', f, rfl, hx1, by rw [hu]; exact h1.1, fun k i hk => ⟨hA1 k i hk, lout_ne hne hlt hA1 k i hk⟩, by rw [hu]; exact lout_kept hP (hk1 oa hlt (lout_no hne hlt)), fun y hy => by cases hy⟩, h1.2.2.F hu⟩) h1.2.2.2.2 lh3_24 B.notSynchronized
theorem lh4_0 : decode method_7_code 0 = .ok (.aload_n 2, 1) := by decide +kernel
theorem lh4_1 : decode method_7_code 1 = .ok (.iconst 0, 1) := by decide +kernel
theorem lh4_2 : decode method_7_code 2 = .ok (.aload_n 0, 1) := by decide +kernel
theorem lh4_3 : decode method_7_code 3 = .ok (.iload_n 1, 1) := by decide +kernel
theorem lh4_4 : decode method_7_code 4 = .ok (.invokevirtual 30, 3) := by decide +kernel
theorem lh4_7 : decode method_7_code 7 = .ok (.i2l, 1) := by decide +kernel
theorem lh4_8 : decode method_7_code 8 = .ok (.lastore, 1) := by decide +kernel
theorem lh4_9 : decode method_7_code 9 = .ok (.goto 9, 3) := by decide +kernel
theorem lh4_12 : decode method_7_code 12 = .ok (.astore_n 3, 1) := by decide +kernel
theorem lh4_13 : decode method_7_code 13 = .ok (.iconst 1, 1) := by decide +kernel
theorem lh4_14 : decode method_7_code 14 = .ok (.ireturn, 1) := by decide +kernel
theorem lh4_15 : decode method_7_code 15 = .ok (.astore_n 3, 1) := by decide +kernel
theorem lh4_16 : decode method_7_code 16 = .ok (.iconst 2, 1) := by decide +kernel
theorem lh4_17 : decode method_7_code 17 = .ok (.ireturn, 1) := by decide +kernel
theorem lh4_18 : decode method_7_code 18 = .ok (.iconst 0, 1) := by decide +kernel
theorem lh4_19 : decode method_7_code 19 = .ok (.ireturn, 1) := by decide +kernel
abbrev lhs4 : List (Nat × Nat × Nat × Nat) := [(0, 9, 12, 13), (0, 9, 15, 15)]
def lhy4 : MethodName := ⟨"PageKeeperLaw", "commit", "(LPageKeeper;I[J)I"⟩
set_option maxRecDepth 20000 in
theorem lhw4 : lw_tbl[703]? = some (.codeWith lhy4 method_7_code 4 (some .int) lhs4) := rfl
def lhws4 : List Cond := .codeWith lhy4 method_7_code 4 (some .int) lhs4 :: zWS
set_option maxRecDepth 100000 in
theorem lh4 {l : Launch} {D : va_G} {ty : Nat → ClassId} {ad : zA} {t t1 : zT} {o : zO} {N sz oa : Nat} {cL : ClassId} {f : Nat → Int64} {a1 : Int32} (htr : ∀ e, l.admits e → e.platform.stackTraces = false) (hz : zrun N 4 (0, zent 4 (.inr (some (0, 0)) :: [.inl a1]), [], t) = some (o, t1)) (ho : (∃ x, o = .inl (some (.inl x))) ∨ o = .inr 1 ∨ o = .inr 2) (hm : t.2 ≤ t1.2) :
    Met l lhy4 lhws4 { frames := zFr 4 + 1, locals := 8 + (zlocs 4 + 11) + zLo 4, cells := t1.2 - t.2 + zth o, slots := 16 * (t1.2 - t.2) + 6 * zth o } (lPh D ty ad t [.inl a1] sz cL oa f) (fun _ st oc u => lQh D ty ad t.2 sz o t1 cL oa st oc u) (t1.2 - t.2 + zth o) (16 * (t1.2 - t.2) + 6 * zth o) (lFr ad t.2 sz oa) := by
  refine va_MetW (cc := method_7_code) (maxL := 4) (ret := some .int) (hh := lhs4) (by decide) rfl ?_
  intro p e s m args below meth c s₁ B hml hv
  obtain ⟨rfl, hno, hsz, hw, hK, hKL, hT, hP, hne⟩ := hv
  have hts : ∀ w ∈ lhws4, w.before _ s = true := atoms_spec B.pre
  have hws : ∀ w ∈ zWS, w.before _ s = true := fun w hw => hts w (List.mem_cons_of_mem _ hw)
  obtain ⟨mq, methq, cq, q0, q1, q2, -, -, q5, -⟩ := Cond.codeWith_spec (hts _ List.mem_cons_self)
  cases B.named.symm.trans q0
  have X0 := Stand.of_body B
  cases X0.method.symm.trans q1
  cases X0.code.symm.trans q2
  have hex : c.exceptionTable.toList = tableOf lhs4 := by rw [← table_eq c.exceptionTable.toList, q5]
  subst hsz
  have hlt := lout_lt hP
  have hAk : zAok (lFr ad t.2 s.heap.size oa) s := by
    refine ⟨fun q hq => Or.inl (Or.inr hq), fun q cell hq hst hA => ?_⟩
    rcases hA with hA | rfl
    · exact (zAr_ok hw).2 q cell hq hst hA
    · have h9 : s.heap[q]? = some (vp_cell cL (1, .inr (.inl f))) := hP 0 _ rfl
      rw [h9] at hq
      cases hq
      cases hst
  have C : lCx p l s m _ c D ty (lFr ad t.2 s.heap.size oa) method_7_code 4 := ⟨⟨B.exec, B.bytes, hml⟩, ⟨findClass_of_methodNamed B.named, hws, hK⟩, hT, hAk, htr⟩
  have h : lWd D ty (lFr ad t.2 s.heap.size oa) s ad t s.heap [] := ⟨hw, fun k i hk => Or.inl (Or.inl ⟨k, i, hk, rfl⟩), va_S.rf⟩
  have hx := B.exec
  have hb := B.bytes
  have hl := lv_entry ([.ref (ad 0 0), .int a1, .ref oa]) (n := 4) (Nat.le_of_ble_eq_true rfl)
  show W _ _ _ _ _ _ _ _ _ _ _ _ _ _ _ (entryFrame m ([.ref (ad 0 0), .int a1, .ref oa] : List Value).toArray 4)
  rw [lg_entry_eq]
  generalize (lg_sl ([.ref (ad 0 0), .int a1, .ref oa]) ++ List.replicate (4 - (lg_sl ([.ref (ad 0 0), .int a1, .ref oa])).length) Slot.unset).toArray = ls at hl ⊢
  have hl : lv_has ls 4 [(0, .ref (ad 0 0)), (1, .int a1), (2, .ref oa)] := hl
  refine lv_aload_n hx hb lh4_0 rfl (lv_at hl 2 rfl) ?_
  refine lv_iconst (v := 0) hx hb lh4_1 (by decide) ?_
  refine lv_aload_n hx hb lh4_2 rfl (lv_at hl 0 rfl) ?_
  refine lv_iload_n hx hb lh4_3 rfl (lv_at hl 1 rfl) ?_
  have hlk : Cond.methodLink "PageKeeperLaw" 30 (zyy 4) ∈ zWS := zhas_mem (by decide +kernel)
  rcases ho with ⟨x, rfl⟩ | rfl | rfl
  · refine lcallV (N := N) (m' := 4) (n := 30) (k0 := 0) (i0 := 0) (as' := [.inl a1]) (rest := [.int 0, .ref oa]) C h (by decide) hlk (by decide +kernel) (by decide +kernel) (by show 2 = znar 4; decide +kernel) rfl (fun v hv => by simp only [List.mem_cons, List.not_mem_nil, or_false] at hv; rcases hv with rfl <;> rfl) hz (Nat.le_refl _) (Nat.le_refl _) hl.1 (Nat.le_of_ble_eq_true rfl) lh4_4 (by show 0 + (t1.2 - t.2) ≤ t1.2 - t.2 + 0; omega) (by show 0 + 16 * (t1.2 - t.2) ≤ 16 * (t1.2 - t.2) + 6 * 0; omega) fun ad' H' locs' hx1 h1 hA1 hk1 => ?_
    refine lv_i2l hx hb lh4_7 rfl ?_
    refine lstore C h1 hKL (lout_kept hP (hk1 oa hlt (lout_no hne hlt))) (lout_ne hne hlt hA1) (Or.inr rfl) lh4_8 fun H2 locs2 f2 hf2 h2 hP2 => ?_
    refine lv_goto (tgt := 18) hx hb lh4_9 (by decide) ?_
    refine lv_iconst (v := 0) hx hb lh4_18 (by decide) ?_
    refine W.widen (k := t1.2 - t.2 + zth (.inl (some (.inl x)))) (n := 16 * (t1.2 - t.2) + 6 * zth (.inl (some (.inl x)))) (by simp [zth]) (by simp [zth]) ?_
    exact W.iret (v := 0) hx hb B.returns (fun u hu hW => ⟨⟨ad', f2, rfl, hx1, by rw [hu]; exact h2.1, fun k i hk => ⟨hA1 k i hk, lout_ne hne hlt hA1 k i hk⟩, by rw [hu]; exact hP2, fun y hy => by cases hy; exact hf2⟩, h2.2.2.F hu⟩) h2.2.2.2.2 lh4_19 B.notSynchronized
  · refine lthrV (x := 1) (pre := []) (row := ⟨0, 9, 12, 13⟩) (post := [⟨0, 9, 15, 15⟩]) (N := N) (m' := 4) (n := 30) (k0 := 0) (i0 := 0) (as' := [.inl a1]) (rest := [.int 0, .ref oa]) C h (by decide) hlk (by decide +kernel) (by decide +kernel) (by show 2 = znar 4; decide +kernel) rfl (fun v hv => by simp only [List.mem_cons, List.not_mem_nil, or_false] at hv; rcases hv with rfl <;> rfl) hz (Nat.le_refl _) (Nat.le_refl _) hl.1 (Nat.le_of_ble_eq_true rfl) lh4_4 (by show 0 + (t1.2 - t.2 + 1) ≤ t1.2 - t.2 + 1; omega) (by show 0 + (16 * (t1.2 - t.2) + 6) ≤ 16 * (t1.2 - t.2) + 6 * 1; omega) hex (fun y hy => by cases hy) (by decide) (by decide) (hws _ (zhas_mem (by decide +kernel))) (hws _ (zhas_mem (by decide +kernel))) fun a ad' H' locs' hx1 h1 hA1 hk1 => ?_
    refine lv_astore_n hx hb lh4_12 rfl hl (by decide) rfl fun ls hl => ?_
    refine lv_iconst (v := nI 1) hx hb lh4_13 (by decide) ?_
    refine W.widen (k := t1.2 - t.2 + zth (.inr 1)) (n := 16 * (t1.2 - t.2) + 6 * zth (.inr 1)) (by show 0 + (t1.2 - t.2 + 1) ≤ t1.2 - t.2 + 1; omega) (by show 0 + (16 * (t1.2 - t.2) + 6) ≤ 16 * (t1.2 - t.2) + 6 * 1; omega) ?_
    exact W.iret (v := nI 1) hx hb B.returns (fun u hu hW => ⟨⟨ad', f, rfl, hx1, by rw [hu]; exact h1.1, fun k i hk => ⟨hA1 k i hk, lout_ne hne hlt hA1 k i hk⟩, by rw [hu]; exact lout_kept hP (hk1 oa hlt (lout_no hne hlt)), fun y hy => by cases hy⟩, h1.2.2.F hu⟩) h1.2.2.2.2 lh4_14 B.notSynchronized
  · refine lthrV (x := 2) (pre := [⟨0, 9, 12, 13⟩]) (row := ⟨0, 9, 15, 15⟩) (post := []) (N := N) (m' := 4) (n := 30) (k0 := 0) (i0 := 0) (as' := [.inl a1]) (rest := [.int 0, .ref oa]) C h (by decide) hlk (by decide +kernel) (by decide +kernel) (by show 2 = znar 4; decide +kernel) rfl (fun v hv => by simp only [List.mem_cons, List.not_mem_nil, or_false] at hv; rcases hv with rfl <;> rfl) hz (Nat.le_refl _) (Nat.le_refl _) hl.1 (Nat.le_of_ble_eq_true rfl) lh4_4 (by show 0 + (t1.2 - t.2 + 1) ≤ t1.2 - t.2 + 1; omega) (by show 0 + (16 * (t1.2 - t.2) + 6) ≤ 16 * (t1.2 - t.2) + 6 * 1; omega) hex (fun y hy => by simp only [List.mem_cons, List.not_mem_nil, or_false] at hy; subst hy; exact ⟨by decide, zxn 1, hws _ (zhas_mem (by decide +kernel)), hno.at _ (List.mem_of_getElem? (i := 0) rfl)⟩) (by decide) (by decide) (hws _ (zhas_mem (by decide +kernel))) (hws _ (zhas_mem (by decide +kernel))) fun a ad' H' locs' hx1 h1 hA1 hk1 => ?_
    refine lv_astore_n hx hb lh4_15 rfl hl (by decide) rfl fun ls hl => ?_
    refine lv_iconst (v := nI 2) hx hb lh4_16 (by decide) ?_
    refine W.widen (k := t1.2 - t.2 + zth (.inr 2)) (n := 16 * (t1.2 - t.2) + 6 * zth (.inr 2)) (by show 0 + (t1.2 - t.2 + 1) ≤ t1.2 - t.2 + 1; omega) (by show 0 + (16 * (t1.2 - t.2) + 6) ≤ 16 * (t1.2 - t.2) + 6 * 1; omega) ?_
    exact W.iret (v := nI 2) hx hb B.returns (fun u hu hW => ⟨⟨ad', f, rfl, hx1, by rw [hu]; exact h1.1, fun k i hk => ⟨hA1 k i hk, lout_ne hne hlt hA1 k i hk⟩, by rw [hu]; exact lout_kept hP (hk1 oa hlt (lout_no hne hlt)), fun y hy => by cases hy⟩, h1.2.2.F hu⟩) h1.2.2.2.2 lh4_17 B.notSynchronized
theorem lh5_0 : decode method_8_code 0 = .ok (.aload_n 2, 1) := by decide +kernel
theorem lh5_1 : decode method_8_code 1 = .ok (.iconst 0, 1) := by decide +kernel
theorem lh5_2 : decode method_8_code 2 = .ok (.aload_n 0, 1) := by decide +kernel
theorem lh5_3 : decode method_8_code 3 = .ok (.iload_n 1, 1) := by decide +kernel
theorem lh5_4 : decode method_8_code 4 = .ok (.invokevirtual 33, 3) := by decide +kernel
theorem lh5_7 : decode method_8_code 7 = .ok (.i2l, 1) := by decide +kernel
theorem lh5_8 : decode method_8_code 8 = .ok (.lastore, 1) := by decide +kernel
theorem lh5_9 : decode method_8_code 9 = .ok (.goto 9, 3) := by decide +kernel
theorem lh5_12 : decode method_8_code 12 = .ok (.astore_n 3, 1) := by decide +kernel
theorem lh5_13 : decode method_8_code 13 = .ok (.iconst 1, 1) := by decide +kernel
theorem lh5_14 : decode method_8_code 14 = .ok (.ireturn, 1) := by decide +kernel
theorem lh5_15 : decode method_8_code 15 = .ok (.astore_n 3, 1) := by decide +kernel
theorem lh5_16 : decode method_8_code 16 = .ok (.iconst 2, 1) := by decide +kernel
theorem lh5_17 : decode method_8_code 17 = .ok (.ireturn, 1) := by decide +kernel
theorem lh5_18 : decode method_8_code 18 = .ok (.iconst 0, 1) := by decide +kernel
theorem lh5_19 : decode method_8_code 19 = .ok (.ireturn, 1) := by decide +kernel
abbrev lhs5 : List (Nat × Nat × Nat × Nat) := [(0, 9, 12, 13), (0, 9, 15, 15)]
def lhy5 : MethodName := ⟨"PageKeeperLaw", "abort", "(LPageKeeper;I[J)I"⟩
set_option maxRecDepth 20000 in
theorem lhw5 : lw_tbl[710]? = some (.codeWith lhy5 method_8_code 4 (some .int) lhs5) := rfl
def lhws5 : List Cond := .codeWith lhy5 method_8_code 4 (some .int) lhs5 :: zWS
set_option maxRecDepth 100000 in
theorem lh5 {l : Launch} {D : va_G} {ty : Nat → ClassId} {ad : zA} {t t1 : zT} {o : zO} {N sz oa : Nat} {cL : ClassId} {f : Nat → Int64} {a1 : Int32} (htr : ∀ e, l.admits e → e.platform.stackTraces = false) (hz : zrun N 5 (0, zent 5 (.inr (some (0, 0)) :: [.inl a1]), [], t) = some (o, t1)) (ho : (∃ x, o = .inl (some (.inl x))) ∨ o = .inr 1 ∨ o = .inr 2) (hm : t.2 ≤ t1.2) :
    Met l lhy5 lhws5 { frames := zFr 5 + 1, locals := 8 + (zlocs 5 + 11) + zLo 5, cells := t1.2 - t.2 + zth o, slots := 16 * (t1.2 - t.2) + 6 * zth o } (lPh D ty ad t [.inl a1] sz cL oa f) (fun _ st oc u => lQh D ty ad t.2 sz o t1 cL oa st oc u) (t1.2 - t.2 + zth o) (16 * (t1.2 - t.2) + 6 * zth o) (lFr ad t.2 sz oa) := by
  refine va_MetW (cc := method_8_code) (maxL := 4) (ret := some .int) (hh := lhs5) (by decide) rfl ?_
  intro p e s m args below meth c s₁ B hml hv
  obtain ⟨rfl, hno, hsz, hw, hK, hKL, hT, hP, hne⟩ := hv
  have hts : ∀ w ∈ lhws5, w.before _ s = true := atoms_spec B.pre
  have hws : ∀ w ∈ zWS, w.before _ s = true := fun w hw => hts w (List.mem_cons_of_mem _ hw)
  obtain ⟨mq, methq, cq, q0, q1, q2, -, -, q5, -⟩ := Cond.codeWith_spec (hts _ List.mem_cons_self)
  cases B.named.symm.trans q0
  have X0 := Stand.of_body B
  cases X0.method.symm.trans q1
  cases X0.code.symm.trans q2
  have hex : c.exceptionTable.toList = tableOf lhs5 := by rw [← table_eq c.exceptionTable.toList, q5]
  subst hsz
  have hlt := lout_lt hP
  have hAk : zAok (lFr ad t.2 s.heap.size oa) s := by
    refine ⟨fun q hq => Or.inl (Or.inr hq), fun q cell hq hst hA => ?_⟩
    rcases hA with hA | rfl
    · exact (zAr_ok hw).2 q cell hq hst hA
    · have h9 : s.heap[q]? = some (vp_cell cL (1, .inr (.inl f))) := hP 0 _ rfl
      rw [h9] at hq
      cases hq
      cases hst
  have C : lCx p l s m _ c D ty (lFr ad t.2 s.heap.size oa) method_8_code 4 := ⟨⟨B.exec, B.bytes, hml⟩, ⟨findClass_of_methodNamed B.named, hws, hK⟩, hT, hAk, htr⟩
  have h : lWd D ty (lFr ad t.2 s.heap.size oa) s ad t s.heap [] := ⟨hw, fun k i hk => Or.inl (Or.inl ⟨k, i, hk, rfl⟩), va_S.rf⟩
  have hx := B.exec
  have hb := B.bytes
  have hl := lv_entry ([.ref (ad 0 0), .int a1, .ref oa]) (n := 4) (Nat.le_of_ble_eq_true rfl)
  show W _ _ _ _ _ _ _ _ _ _ _ _ _ _ _ (entryFrame m ([.ref (ad 0 0), .int a1, .ref oa] : List Value).toArray 4)
  rw [lg_entry_eq]
  generalize (lg_sl ([.ref (ad 0 0), .int a1, .ref oa]) ++ List.replicate (4 - (lg_sl ([.ref (ad 0 0), .int a1, .ref oa])).length) Slot.unset).toArray = ls at hl ⊢
  have hl : lv_has ls 4 [(0, .ref (ad 0 0)), (1, .int a1), (2, .ref oa)] := hl
  refine lv_aload_n hx hb lh5_0 rfl (lv_at hl 2 rfl) ?_
  refine lv_iconst (v := 0) hx hb lh5_1 (by decide) ?_
  refine lv_aload_n hx hb lh5_2 rfl (lv_at hl 0 rfl) ?_
  refine lv_iload_n hx hb lh5_3 rfl (lv_at hl 1 rfl) ?_
  have hlk : Cond.methodLink "PageKeeperLaw" 33 (zyy 5) ∈ zWS := zhas_mem (by decide +kernel)
  rcases ho with ⟨x, rfl⟩ | rfl | rfl
  · refine lcallV (N := N) (m' := 5) (n := 33) (k0 := 0) (i0 := 0) (as' := [.inl a1]) (rest := [.int 0, .ref oa]) C h (by decide) hlk (by decide +kernel) (by decide +kernel) (by show 2 = znar 5; decide +kernel) rfl (fun v hv => by simp only [List.mem_cons, List.not_mem_nil, or_false] at hv; rcases hv with rfl <;> rfl) hz (Nat.le_refl _) (Nat.le_refl _) hl.1 (Nat.le_of_ble_eq_true rfl) lh5_4 (by show 0 + (t1.2 - t.2) ≤ t1.2 - t.2 + 0; omega) (by show 0 + 16 * (t1.2 - t.2) ≤ 16 * (t1.2 - t.2) + 6 * 0; omega) fun ad' H' locs' hx1 h1 hA1 hk1 => ?_
    refine lv_i2l hx hb lh5_7 rfl ?_
    refine lstore C h1 hKL (lout_kept hP (hk1 oa hlt (lout_no hne hlt))) (lout_ne hne hlt hA1) (Or.inr rfl) lh5_8 fun H2 locs2 f2 hf2 h2 hP2 => ?_
    refine lv_goto (tgt := 18) hx hb lh5_9 (by decide) ?_
    refine lv_iconst (v := 0) hx hb lh5_18 (by decide) ?_
    refine W.widen (k := t1.2 - t.2 + zth (.inl (some (.inl x)))) (n := 16 * (t1.2 - t.2) + 6 * zth (.inl (some (.inl x)))) (by simp [zth]) (by simp [zth]) ?_
    exact W.iret (v := 0) hx hb B.returns (fun u hu hW => ⟨⟨ad', f2, rfl, hx1, by rw [hu]; exact h2.1, fun k i hk => ⟨hA1 k i hk, lout_ne hne hlt hA1 k i hk⟩, by rw [hu]; exact hP2, fun y hy => by cases hy; exact hf2⟩, h2.2.2.F hu⟩) h2.2.2.2.2 lh5_19 B.notSynchronized
  · refine lthrV (x := 1) (pre := []) (row := ⟨0, 9, 12, 13⟩) (post := [⟨0, 9, 15, 15⟩]) (N := N) (m' := 5) (n := 33) (k0 := 0) (i0 := 0) (as' := [.inl a1]) (rest := [.int 0, .ref oa]) C h (by decide) hlk (by decide +kernel) (by decide +kernel) (by show 2 = znar 5; decide +kernel) rfl (fun v hv => by simp only [List.mem_cons, List.not_mem_nil, or_false] at hv; rcases hv with rfl <;> rfl) hz (Nat.le_refl _) (Nat.le_refl _) hl.1 (Nat.le_of_ble_eq_true rfl) lh5_4 (by show 0 + (t1.2 - t.2 + 1) ≤ t1.2 - t.2 + 1; omega) (by show 0 + (16 * (t1.2 - t.2) + 6) ≤ 16 * (t1.2 - t.2) + 6 * 1; omega) hex (fun y hy => by cases hy) (by decide) (by decide) (hws _ (zhas_mem (by decide +kernel))) (hws _ (zhas_mem (by decide +kernel))) fun a ad' H' locs' hx1 h1 hA1 hk1 => ?_
    refine lv_astore_n hx hb lh5_12 rfl hl (by decide) rfl fun ls hl => ?_
    refine lv_iconst (v := nI 1) hx hb lh5_13 (by decide) ?_
    refine W.widen (k := t1.2 - t.2 + zth (.inr 1)) (n := 16 * (t1.2 - t.2) + 6 * zth (.inr 1)) (by show 0 + (t1.2 - t.2 + 1) ≤ t1.2 - t.2 + 1; omega) (by show 0 + (16 * (t1.2 - t.2) + 6) ≤ 16 * (t1.2 - t.2) + 6 * 1; omega) ?_
    exact W.iret (v := nI 1) hx hb B.returns (fun u hu hW => ⟨⟨ad', f, rfl, hx1, by rw [hu]; exact h1.1, fun k i hk => ⟨hA1 k i hk, lout_ne hne hlt hA1 k i hk⟩, by rw [hu]; exact lout_kept hP (hk1 oa hlt (lout_no hne hlt)), fun y hy => by cases hy⟩, h1.2.2.F hu⟩) h1.2.2.2.2 lh5_14 B.notSynchronized
  · refine lthrV (x := 2) (pre := [⟨0, 9, 12, 13⟩]) (row := ⟨0, 9, 15, 15⟩) (post := []) (N := N) (m' := 5) (n := 33) (k0 := 0) (i0 := 0) (as' := [.inl a1]) (rest := [.int 0, .ref oa]) C h (by decide) hlk (by decide +kernel) (by decide +kernel) (by show 2 = znar 5; decide +kernel) rfl (fun v hv => by simp only [List.mem_cons, List.not_mem_nil, or_false] at hv; rcases hv with rfl <;> rfl) hz (Nat.le_refl _) (Nat.le_refl _) hl.1 (Nat.le_of_ble_eq_true rfl) lh5_4 (by show 0 + (t1.2 - t.2 + 1) ≤ t1.2 - t.2 + 1; omega) (by show 0 + (16 * (t1.2 - t.2) + 6) ≤ 16 * (t1.2 - t.2) + 6 * 1; omega) hex (fun y hy => by simp only [List.mem_cons, List.not_mem_nil, or_false] at hy; subst hy; exact ⟨by decide, zxn 1, hws _ (zhas_mem (by decide +kernel)), hno.at _ (List.mem_of_getElem? (i := 0) rfl)⟩) (by decide) (by decide) (hws _ (zhas_mem (by decide +kernel))) (hws _ (zhas_mem (by decide +kernel))) fun a ad' H' locs' hx1 h1 hA1 hk1 => ?_
    refine lv_astore_n hx hb lh5_15 rfl hl (by decide) rfl fun ls hl => ?_
    refine lv_iconst (v := nI 2) hx hb lh5_16 (by decide) ?_
    refine W.widen (k := t1.2 - t.2 + zth (.inr 2)) (n := 16 * (t1.2 - t.2) + 6 * zth (.inr 2)) (by show 0 + (t1.2 - t.2 + 1) ≤ t1.2 - t.2 + 1; omega) (by show 0 + (16 * (t1.2 - t.2) + 6) ≤ 16 * (t1.2 - t.2) + 6 * 1; omega) ?_
    exact W.iret (v := nI 2) hx hb B.returns (fun u hu hW => ⟨⟨ad', f, rfl, hx1, by rw [hu]; exact h1.1, fun k i hk => ⟨hA1 k i hk, lout_ne hne hlt hA1 k i hk⟩, by rw [hu]; exact lout_kept hP (hk1 oa hlt (lout_no hne hlt)), fun y hy => by cases hy⟩, h1.2.2.F hu⟩) h1.2.2.2.2 lh5_17 B.notSynchronized
