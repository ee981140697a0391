/-! The constructors of the parts. Printed by ctorgen.py. -/
theorem dk6_0 : decode prog_2_method_1_code 0 = .ok (.aload_n 0, 1) := by decide +kernel
theorem dk6_1 : decode prog_2_method_1_code 1 = .ok (.invokespecial 3, 3) := by decide +kernel
theorem dk6_4 : decode prog_2_method_1_code 4 = .ok (.aload_n 0, 1) := by decide +kernel
theorem dk6_5 : decode prog_2_method_1_code 5 = .ok (.iconst 0, 1) := by decide +kernel
theorem dk6_6 : decode prog_2_method_1_code 6 = .ok (.putfield 9, 3) := by decide +kernel
theorem dk6_9 : decode prog_2_method_1_code 9 = .ok (.aload_n 0, 1) := by decide +kernel
theorem dk6_10 : decode prog_2_method_1_code 10 = .ok (.iconst 0, 1) := by decide +kernel
theorem dk6_11 : decode prog_2_method_1_code 11 = .ok (.putfield 15, 3) := by decide +kernel
theorem dk6_14 : decode prog_2_method_1_code 14 = .ok (.aload_n 0, 1) := by decide +kernel
theorem dk6_15 : decode prog_2_method_1_code 15 = .ok (.iconst 4, 1) := by decide +kernel
theorem dk6_16 : decode prog_2_method_1_code 16 = .ok (.newarray .int, 2) := by decide +kernel
theorem dk6_18 : decode prog_2_method_1_code 18 = .ok (.putfield 19, 3) := by decide +kernel
theorem dk6_21 : decode prog_2_method_1_code 21 = .ok (.aload_n 0, 1) := by decide +kernel
theorem dk6_22 : decode prog_2_method_1_code 22 = .ok (.iconst 4, 1) := by decide +kernel
theorem dk6_23 : decode prog_2_method_1_code 23 = .ok (.newarray .int, 2) := by decide +kernel
theorem dk6_25 : decode prog_2_method_1_code 25 = .ok (.putfield 23, 3) := by decide +kernel
theorem dk6_28 : decode prog_2_method_1_code 28 = .ok (.return_, 1) := by decide +kernel
def yk6 : MethodName := ⟨"PageKeeper$Contents", "<init>", "()V"⟩
set_option maxRecDepth 20000 in
theorem wk6 : Cond.code yk6 prog_2_method_1_code 1 none ∈ zWS := List.mem_filter.mpr ⟨List.mem_of_getElem? (i := 143) (show lw_tbl[143]? = some (.code yk6 prog_2_method_1_code 1 none) from rfl), rfl⟩
theorem wi6 : Cond.instanceMethod yk6 ∈ zWS := (zhat_mem (i := 142) (by decide +kernel))
theorem wn6 : Cond.initialized "PageKeeper$Contents" ∈ zWS ∧ Cond.instantiable "PageKeeper$Contents" 4 ∈ zWS := ⟨(zhat_mem (i := 59) (by decide +kernel)), (zhat_mem (i := 140) (by decide +kernel))⟩
def ck6 (ty : Nat → ClassId) (q : Nat) (ws : va_W) : Prop := ∃ a b : Nat, ws = [(q, .inr (6, [.int 0, .int 0, .ref a, .ref b])), (a, .inl (ty 0, 4, .inl (fun _ => 0))), (b, .inl (ty 0, 4, .inl (fun _ => 0)))]
abbrev fk6 : List Value := [.int 0, .int 0, .null, .null]
theorem vk6 : ∀ j, j < 4 → defaultValue (zty6 j) = vp_V fk6 j := by
  intro j hj
  match j, hj with
  | 0, _ => rfl
  | 1, _ => rfl
  | 2, _ => rfl
  | 3, _ => rfl
  | _ + 4, h => exact absurd h (by omega)
abbrev rk6 : Room := { frames := 1, locals := 12, cells := 2, slots := 8 }
set_option maxRecDepth 100000 in
theorem kk6 (l : Launch) (D : va_G) (ty : Nat → ClassId) (h0 sz : Nat) : Met l yk6 (Cond.code yk6 prog_2_method_1_code 1 none :: zWS) rk6 (cPc D ty h0 (.inr (6, fk6)) sz) (cQ D h0 (.inr (6, fk6)) sz (ck6 ty h0)) 2 8 (va_A [(h0, .inr (6, fk6))] sz) := by
  refine Met.ofW (cc := prog_2_method_1_code) (maxL := 1) (ret := none) (by decide +kernel) rfl ?_
  intro p e s m args below meth c s₁ BB hml hv
  obtain ⟨rfl, hsz, hP, hK⟩ := hv
  subst hsz
  have hws : ∀ w ∈ Cond.code yk6 prog_2_method_1_code 1 none :: zWS, w.before _ s = true := atoms_spec BB.pre
  have hat : ∀ w ∈ zWS, w.before _ s = true := fun w hw => hws w (List.mem_cons_of_mem _ hw)
  have hin : meth.name = "<init>" := (name_of_methodNamed BB.named BB.method).1
  have C : cCx p s m _ c D ty (va_A [(h0, .inr (6, fk6))] s.heap.size) "PageKeeper$Contents" prog_2_method_1_code 1 := ⟨⟨BB.exec, BB.bytes, hml⟩, ⟨findClass_of_methodNamed BB.named, hat⟩, hK, fun q hq => Or.inr hq⟩
  have h : cSt D (va_A [(h0, .inr (6, fk6))] s.heap.size) s [(h0, .inr (6, fk6))] s.heap [] := ⟨hP, cD1 _ _ _, va_S.rf⟩
  have hlen : (fk6).length = 4 := rfl
  have hx := C.1.1
  have hb := C.1.2.1
  have hl := lv_entry ([.ref h0]) (n := 1) (Nat.le_of_ble_eq_true rfl)
  rw [lg_entry_eq]
  generalize (lg_sl ([.ref h0]) ++ List.replicate (1 - (lg_sl ([.ref h0])).length) Slot.unset).toArray = ls at hl ⊢
  have hl : lv_has ls 1 [(0, .ref h0)] := hl
  refine lv_aload_n hx hb dk6_0 rfl (lv_at hl 0 rfl) ?_
  refine W.objInit hx hb C.2.1.1 (hat _ (zhat_mem (i := 144) (by decide +kernel))) (hat _ zrow_ok.2.2.2.2.2.1) (hat _ zrow_ok.2.2.2.2.2.2) rfl (by rw [hml]; exact hl.1) rfl dk6_1 (Nat.le_of_ble_eq_true rfl) (Nat.le_of_ble_eq_true rfl) ?_
  refine W.eq (g2 := F0 m 4 ls []) rfl ?_
  refine lv_aload_n hx hb dk6_4 rfl (lv_at hl 0 rfl) ?_
  refine lv_iconst (v := 0) hx hb dk6_5 (by decide) ?_
  refine cfi (ft := .boolean) C h hlen rfl (k := 0) (by decide) (zhat_mem (i := 145) (by decide +kernel)) rfl rfl (by decide +kernel) rfl rfl dk6_6 fun f6 H locs e6 hlen h => ?_
  refine lv_aload_n hx hb dk6_9 rfl (lv_at hl 0 rfl) ?_
  refine lv_iconst (v := 0) hx hb dk6_10 (by decide) ?_
  refine cfi (ft := .int) C h hlen rfl (k := 1) (by decide) (zhat_mem (i := 148) (by decide +kernel)) rfl rfl (by decide +kernel) rfl rfl dk6_11 fun f11 H locs e11 hlen h => ?_
  refine lv_aload_n hx hb dk6_14 rfl (lv_at hl 0 rfl) ?_
  refine lv_iconst (v := 4) hx hb dk6_15 (by decide) ?_
  refine cna (N' := 4) 0 C h (zhat_mem (i := 114) (by decide +kernel)) rfl rfl rfl (by decide) (by decide) (by decide) (Nat.le_of_ble_eq_true rfl) (Nat.le_of_ble_eq_true rfl) dk6_16 fun q16 H h => ?_
  refine cfr (ft := (.array .int)) C hin h hlen rfl rfl (k := 2) (by decide) (zhat_mem (i := 150) (by decide +kernel)) rfl rfl (by decide +kernel) rfl rfl dk6_18 fun f18 H locs e18 hlen h => ?_
  refine lv_aload_n hx hb dk6_21 rfl (lv_at hl 0 rfl) ?_
  refine lv_iconst (v := 4) hx hb dk6_22 (by decide) ?_
  refine cna (N' := 4) 0 C h (zhat_mem (i := 114) (by decide +kernel)) rfl rfl rfl (by decide) (by decide) (by decide) (Nat.le_of_ble_eq_true rfl) (Nat.le_of_ble_eq_true rfl) dk6_23 fun q23 H h => ?_
  refine cfr (ft := (.array .int)) C hin h hlen rfl rfl (k := 3) (by decide) (zhat_mem (i := 152) (by decide +kernel)) rfl rfl (by decide +kernel) rfl rfl dk6_25 fun f25 H locs e25 hlen h => ?_
  subst e6
  subst e11
  subst e18
  subst e25
  exact W.vret hx hb BB.returns (fun t ht hW => ⟨⟨_, rfl, ⟨q16, q23, rfl⟩, by rw [ht]; exact h.1, h.2.1⟩, h.2.2.F ht⟩) h.2.2.2.2 dk6_28
theorem dk5_0 : decode prog_6_method_1_code 0 = .ok (.aload_n 0, 1) := by decide +kernel
theorem dk5_1 : decode prog_6_method_1_code 1 = .ok (.invokespecial 3, 3) := by decide +kernel
theorem dk5_4 : decode prog_6_method_1_code 4 = .ok (.aload_n 0, 1) := by decide +kernel
theorem dk5_5 : decode prog_6_method_1_code 5 = .ok (.new 9, 3) := by decide +kernel
theorem dk5_8 : decode prog_6_method_1_code 8 = .ok (.dup, 1) := by decide +kernel
theorem dk5_9 : decode prog_6_method_1_code 9 = .ok (.invokespecial 11, 3) := by decide +kernel
theorem dk5_12 : decode prog_6_method_1_code 12 = .ok (.putfield 12, 3) := by decide +kernel
theorem dk5_15 : decode prog_6_method_1_code 15 = .ok (.aload_n 0, 1) := by decide +kernel
theorem dk5_16 : decode prog_6_method_1_code 16 = .ok (.iconst 0, 1) := by decide +kernel
theorem dk5_17 : decode prog_6_method_1_code 17 = .ok (.putfield 18, 3) := by decide +kernel
theorem dk5_20 : decode prog_6_method_1_code 20 = .ok (.aload_n 0, 1) := by decide +kernel
theorem dk5_21 : decode prog_6_method_1_code 21 = .ok (.iconst 0, 1) := by decide +kernel
theorem dk5_22 : decode prog_6_method_1_code 22 = .ok (.putfield 22, 3) := by decide +kernel
theorem dk5_25 : decode prog_6_method_1_code 25 = .ok (.aload_n 0, 1) := by decide +kernel
theorem dk5_26 : decode prog_6_method_1_code 26 = .ok (.iconst 0, 1) := by decide +kernel
theorem dk5_27 : decode prog_6_method_1_code 27 = .ok (.putfield 25, 3) := by decide +kernel
theorem dk5_30 : decode prog_6_method_1_code 30 = .ok (.aload_n 0, 1) := by decide +kernel
theorem dk5_31 : decode prog_6_method_1_code 31 = .ok (.iconst 0, 1) := by decide +kernel
theorem dk5_32 : decode prog_6_method_1_code 32 = .ok (.putfield 28, 3) := by decide +kernel
theorem dk5_35 : decode prog_6_method_1_code 35 = .ok (.aload_n 0, 1) := by decide +kernel
theorem dk5_36 : decode prog_6_method_1_code 36 = .ok (.iconst (-1), 1) := by decide +kernel
theorem dk5_37 : decode prog_6_method_1_code 37 = .ok (.putfield 32, 3) := by decide +kernel
theorem dk5_40 : decode prog_6_method_1_code 40 = .ok (.return_, 1) := by decide +kernel
def yk5 : MethodName := ⟨"PageKeeper$Page", "<init>", "()V"⟩
set_option maxRecDepth 20000 in
theorem wk5 : Cond.code yk5 prog_6_method_1_code 1 none ∈ zWS := List.mem_filter.mpr ⟨List.mem_of_getElem? (i := 137) (show lw_tbl[137]? = some (.code yk5 prog_6_method_1_code 1 none) from rfl), rfl⟩
theorem wi5 : Cond.instanceMethod yk5 ∈ zWS := (zhat_mem (i := 136) (by decide +kernel))
theorem wn5 : Cond.initialized "PageKeeper$Page" ∈ zWS ∧ Cond.instantiable "PageKeeper$Page" 6 ∈ zWS := ⟨(zhat_mem (i := 58) (by decide +kernel)), (zhat_mem (i := 134) (by decide +kernel))⟩
def ck5 (ty : Nat → ClassId) (q : Nat) (ws : va_W) : Prop := ∃ k a b : Nat, ws = [(q, .inr (5, [.ref k, .int 0, .int 0, .int 0, .int 0, .int (-1)])), (k, .inr (6, [.int 0, .int 0, .ref a, .ref b])), (a, .inl (ty 0, 4, .inl (fun _ => 0))), (b, .inl (ty 0, 4, .inl (fun _ => 0)))]
abbrev fk5 : List Value := [.null, .int 0, .int 0, .int 0, .int 0, .int 0]
theorem vk5 : ∀ j, j < 6 → defaultValue (zty5 j) = vp_V fk5 j := by
  intro j hj
  match j, hj with
  | 0, _ => rfl
  | 1, _ => rfl
  | 2, _ => rfl
  | 3, _ => rfl
  | 4, _ => rfl
  | 5, _ => rfl
  | _ + 6, h => exact absurd h (by omega)
abbrev rk5 : Room := { frames := 2, locals := 32, cells := 3, slots := 12 }
set_option maxRecDepth 100000 in
theorem kk5 (l : Launch) (D : va_G) (ty : Nat → ClassId) (h0 sz : Nat) : Met l yk5 (Cond.code yk5 prog_6_method_1_code 1 none :: zWS) rk5 (cPc D ty h0 (.inr (5, fk5)) sz) (cQ D h0 (.inr (5, fk5)) sz (ck5 ty h0)) 3 12 (va_A [(h0, .inr (5, fk5))] sz) := by
  refine Met.ofW (cc := prog_6_method_1_code) (maxL := 1) (ret := none) (by decide +kernel) rfl ?_
  intro p e s m args below meth c s₁ BB hml hv
  obtain ⟨rfl, hsz, hP, hK⟩ := hv
  subst hsz
  have hws : ∀ w ∈ Cond.code yk5 prog_6_method_1_code 1 none :: zWS, w.before _ s = true := atoms_spec BB.pre
  have hat : ∀ w ∈ zWS, w.before _ s = true := fun w hw => hws w (List.mem_cons_of_mem _ hw)
  have hin : meth.name = "<init>" := (name_of_methodNamed BB.named BB.method).1
  have C : cCx p s m _ c D ty (va_A [(h0, .inr (5, fk5))] s.heap.size) "PageKeeper$Page" prog_6_method_1_code 1 := ⟨⟨BB.exec, BB.bytes, hml⟩, ⟨findClass_of_methodNamed BB.named, hat⟩, hK, fun q hq => Or.inr hq⟩
  have h : cSt D (va_A [(h0, .inr (5, fk5))] s.heap.size) s [(h0, .inr (5, fk5))] s.heap [] := ⟨hP, cD1 _ _ _, va_S.rf⟩
  have hlen : (fk5).length = 6 := rfl
  have hx := C.1.1
  have hb := C.1.2.1
  have hl := lv_entry ([.ref h0]) (n := 1) (Nat.le_of_ble_eq_true rfl)
  rw [lg_entry_eq]
  generalize (lg_sl ([.ref h0]) ++ List.replicate (1 - (lg_sl ([.ref h0])).length) Slot.unset).toArray = ls at hl ⊢
  have hl : lv_has ls 1 [(0, .ref h0)] := hl
  refine lv_aload_n hx hb dk5_0 rfl (lv_at hl 0 rfl) ?_
  refine W.objInit hx hb C.2.1.1 (hat _ (zhat_mem (i := 138) (by decide +kernel))) (hat _ zrow_ok.2.2.2.2.2.1) (hat _ zrow_ok.2.2.2.2.2.2) rfl (by rw [hml]; exact hl.1) rfl dk5_1 (Nat.le_of_ble_eq_true rfl) (Nat.le_of_ble_eq_true rfl) ?_
  refine W.eq (g2 := F0 m 4 ls []) rfl ?_
  refine lv_aload_n hx hb dk5_4 rfl (lv_at hl 0 rfl) ?_
  refine cnew (host := "PageKeeper") (ty0 := zty6) (fs := fk6) (rm := rk6) C h rfl ztyo6 vk6 (zhat_mem (i := 139) (by decide +kernel)) wn6.2 wn6.1 (fun q sz => kk6 l D ty q sz) wk6 wi6 rfl rfl (by decide +kernel) (by decide +kernel) (Or.inl (C.2.2.1.2.1 _ (by decide +kernel))) rfl rfl (Nat.le_of_ble_eq_true rfl) (Nat.le_of_ble_eq_true rfl) hl.1 (Nat.le_of_ble_eq_true rfl) dk5_5 dk5_8 dk5_9 (Nat.le_of_ble_eq_true rfl) (Nat.le_of_ble_eq_true rfl) fun q5 w1 H locs hB h => ?_
  obtain ⟨a5, b5, rfl⟩ := hB
  refine cfr (ft := (.object "PageKeeper$Contents")) C hin h hlen rfl rfl (k := 0) (by decide) (zhat_mem (i := 164) (by decide +kernel)) rfl rfl (by decide +kernel) rfl rfl dk5_12 fun f12 H locs e12 hlen h => ?_
  refine lv_aload_n hx hb dk5_15 rfl (lv_at hl 0 rfl) ?_
  refine lv_iconst (v := 0) hx hb dk5_16 (by decide) ?_
  refine cfi (ft := .int) C h hlen rfl (k := 1) (by decide) (zhat_mem (i := 166) (by decide +kernel)) rfl rfl (by decide +kernel) rfl rfl dk5_17 fun f17 H locs e17 hlen h => ?_
  refine lv_aload_n hx hb dk5_20 rfl (lv_at hl 0 rfl) ?_
  refine lv_iconst (v := 0) hx hb dk5_21 (by decide) ?_
  refine cfi (ft := .int) C h hlen rfl (k := 2) (by decide) (zhat_mem (i := 168) (by decide +kernel)) rfl rfl (by decide +kernel) rfl rfl dk5_22 fun f22 H locs e22 hlen h => ?_
  refine lv_aload_n hx hb dk5_25 rfl (lv_at hl 0 rfl) ?_
  refine lv_iconst (v := 0) hx hb dk5_26 (by decide) ?_
  refine cfi (ft := .int) C h hlen rfl (k := 3) (by decide) (zhat_mem (i := 170) (by decide +kernel)) rfl rfl (by decide +kernel) rfl rfl dk5_27 fun f27 H locs e27 hlen h => ?_
  refine lv_aload_n hx hb dk5_30 rfl (lv_at hl 0 rfl) ?_
  refine lv_iconst (v := 0) hx hb dk5_31 (by decide) ?_
  refine cfi (ft := .boolean) C h hlen rfl (k := 4) (by decide) (zhat_mem (i := 172) (by decide +kernel)) rfl rfl (by decide +kernel) rfl rfl dk5_32 fun f32 H locs e32 hlen h => ?_
  refine lv_aload_n hx hb dk5_35 rfl (lv_at hl 0 rfl) ?_
  refine lv_iconst (v := (-1)) hx hb dk5_36 (by decide) ?_
  refine cfi (ft := .int) C h hlen rfl (k := 5) (by decide) (zhat_mem (i := 174) (by decide +kernel)) rfl rfl (by decide +kernel) rfl rfl dk5_37 fun f37 H locs e37 hlen h => ?_
  subst e12
  subst e17
  subst e22
  subst e27
  subst e32
  subst e37
  exact W.vret hx hb BB.returns (fun t ht hW => ⟨⟨_, rfl, ⟨q5, a5, b5, rfl⟩, by rw [ht]; exact h.1, h.2.1⟩, h.2.2.F ht⟩) h.2.2.2.2 dk5_40
theorem dk1_0 : decode prog_4_method_1_code 0 = .ok (.aload_n 0, 1) := by decide +kernel
theorem dk1_1 : decode prog_4_method_1_code 1 = .ok (.invokespecial 3, 3) := by decide +kernel
theorem dk1_4 : decode prog_4_method_1_code 4 = .ok (.aload_n 0, 1) := by decide +kernel
theorem dk1_5 : decode prog_4_method_1_code 5 = .ok (.sipush 1145, 3) := by decide +kernel
theorem dk1_8 : decode prog_4_method_1_code 8 = .ok (.anewarray 9, 3) := by decide +kernel
theorem dk1_11 : decode prog_4_method_1_code 11 = .ok (.putfield 11, 3) := by decide +kernel
theorem dk1_14 : decode prog_4_method_1_code 14 = .ok (.aload_n 0, 1) := by decide +kernel
theorem dk1_15 : decode prog_4_method_1_code 15 = .ok (.iconst 0, 1) := by decide +kernel
theorem dk1_16 : decode prog_4_method_1_code 16 = .ok (.putfield 17, 3) := by decide +kernel
theorem dk1_19 : decode prog_4_method_1_code 19 = .ok (.aload_n 0, 1) := by decide +kernel
theorem dk1_20 : decode prog_4_method_1_code 20 = .ok (.iconst 0, 1) := by decide +kernel
theorem dk1_21 : decode prog_4_method_1_code 21 = .ok (.putfield 21, 3) := by decide +kernel
theorem dk1_24 : decode prog_4_method_1_code 24 = .ok (.aload_n 0, 1) := by decide +kernel
theorem dk1_25 : decode prog_4_method_1_code 25 = .ok (.iconst 0, 1) := by decide +kernel
theorem dk1_26 : decode prog_4_method_1_code 26 = .ok (.putfield 24, 3) := by decide +kernel
theorem dk1_29 : decode prog_4_method_1_code 29 = .ok (.return_, 1) := by decide +kernel
def yk1 : MethodName := ⟨"PageKeeper$Log", "<init>", "()V"⟩
set_option maxRecDepth 20000 in
theorem wk1 : Cond.code yk1 prog_4_method_1_code 1 none ∈ zWS := List.mem_filter.mpr ⟨List.mem_of_getElem? (i := 81) (show lw_tbl[81]? = some (.code yk1 prog_4_method_1_code 1 none) from rfl), rfl⟩
theorem wi1 : Cond.instanceMethod yk1 ∈ zWS := (zhat_mem (i := 80) (by decide +kernel))
theorem wn1 : Cond.initialized "PageKeeper$Log" ∈ zWS ∧ Cond.instantiable "PageKeeper$Log" 4 ∈ zWS := ⟨(zhat_mem (i := 55) (by decide +kernel)), (zhat_mem (i := 78) (by decide +kernel))⟩
def ck1 (ty : Nat → ClassId) (q : Nat) (ws : va_W) : Prop := ∃ a : Nat, ws = [(q, .inr (1, [.ref a, .int 0, .int 0, .int 0])), (a, .inl (ty 4, 1145, .inr (.inr (.inr (.inr (fun _ => none))))))]
abbrev fk1 : List Value := [.null, .int 0, .int 0, .int 0]
theorem vk1 : ∀ j, j < 4 → defaultValue (zty1 j) = vp_V fk1 j := by
  intro j hj
  match j, hj with
  | 0, _ => rfl
  | 1, _ => rfl
  | 2, _ => rfl
  | 3, _ => rfl
  | _ + 4, h => exact absurd h (by omega)
abbrev rk1 : Room := { frames := 1, locals := 12, cells := 1, slots := 1145 }
set_option maxRecDepth 100000 in
theorem kk1 (l : Launch) (D : va_G) (ty : Nat → ClassId) (h0 sz : Nat) : Met l yk1 (Cond.code yk1 prog_4_method_1_code 1 none :: zWS) rk1 (cPc D ty h0 (.inr (1, fk1)) sz) (cQ D h0 (.inr (1, fk1)) sz (ck1 ty h0)) 1 1145 (va_A [(h0, .inr (1, fk1))] sz) := by
  refine Met.ofW (cc := prog_4_method_1_code) (maxL := 1) (ret := none) (by decide +kernel) rfl ?_
  intro p e s m args below meth c s₁ BB hml hv
  obtain ⟨rfl, hsz, hP, hK⟩ := hv
  subst hsz
  have hws : ∀ w ∈ Cond.code yk1 prog_4_method_1_code 1 none :: zWS, w.before _ s = true := atoms_spec BB.pre
  have hat : ∀ w ∈ zWS, w.before _ s = true := fun w hw => hws w (List.mem_cons_of_mem _ hw)
  have hin : meth.name = "<init>" := (name_of_methodNamed BB.named BB.method).1
  have C : cCx p s m _ c D ty (va_A [(h0, .inr (1, fk1))] s.heap.size) "PageKeeper$Log" prog_4_method_1_code 1 := ⟨⟨BB.exec, BB.bytes, hml⟩, ⟨findClass_of_methodNamed BB.named, hat⟩, hK, fun q hq => Or.inr hq⟩
  have h : cSt D (va_A [(h0, .inr (1, fk1))] s.heap.size) s [(h0, .inr (1, fk1))] s.heap [] := ⟨hP, cD1 _ _ _, va_S.rf⟩
  have hlen : (fk1).length = 4 := rfl
  have hx := C.1.1
  have hb := C.1.2.1
  have hl := lv_entry ([.ref h0]) (n := 1) (Nat.le_of_ble_eq_true rfl)
  rw [lg_entry_eq]
  generalize (lg_sl ([.ref h0]) ++ List.replicate (1 - (lg_sl ([.ref h0])).length) Slot.unset).toArray = ls at hl ⊢
  have hl : lv_has ls 1 [(0, .ref h0)] := hl
  refine lv_aload_n hx hb dk1_0 rfl (lv_at hl 0 rfl) ?_
  refine W.objInit hx hb C.2.1.1 (hat _ (zhat_mem (i := 82) (by decide +kernel))) (hat _ zrow_ok.2.2.2.2.2.1) (hat _ zrow_ok.2.2.2.2.2.2) rfl (by rw [hml]; exact hl.1) rfl dk1_1 (Nat.le_of_ble_eq_true rfl) (Nat.le_of_ble_eq_true rfl) ?_
  refine W.eq (g2 := F0 m 4 ls []) rfl ?_
  refine lv_aload_n hx hb dk1_4 rfl (lv_at hl 0 rfl) ?_
  refine lv_sipush (v := 1145) hx hb dk1_5 (by decide) ?_
  refine cnq (N' := 1145) (Cn := "PageKeeper$LogRow") 4 C h (zhat_mem (i := 83) (by decide +kernel)) C.2.2.1.2.2.1 rfl (by decide) (by decide) (by decide) (Nat.le_of_ble_eq_true rfl) (Nat.le_of_ble_eq_true rfl) dk1_8 fun q8 H h => ?_
  refine cfr (ft := (.array (.object "PageKeeper$LogRow"))) C hin h hlen rfl rfl (k := 0) (by decide) (zhat_mem (i := 85) (by decide +kernel)) rfl rfl (by decide +kernel) rfl rfl dk1_11 fun f11 H locs e11 hlen h => ?_
  refine lv_aload_n hx hb dk1_14 rfl (lv_at hl 0 rfl) ?_
  refine lv_iconst (v := 0) hx hb dk1_15 (by decide) ?_
  refine cfi (ft := .int) C h hlen rfl (k := 1) (by decide) (zhat_mem (i := 87) (by decide +kernel)) rfl rfl (by decide +kernel) rfl rfl dk1_16 fun f16 H locs e16 hlen h => ?_
  refine lv_aload_n hx hb dk1_19 rfl (lv_at hl 0 rfl) ?_
  refine lv_iconst (v := 0) hx hb dk1_20 (by decide) ?_
  refine cfi (ft := .int) C h hlen rfl (k := 2) (by decide) (zhat_mem (i := 89) (by decide +kernel)) rfl rfl (by decide +kernel) rfl rfl dk1_21 fun f21 H locs e21 hlen h => ?_
  refine lv_aload_n hx hb dk1_24 rfl (lv_at hl 0 rfl) ?_
  refine lv_iconst (v := 0) hx hb dk1_25 (by decide) ?_
  refine cfi (ft := .int) C h hlen rfl (k := 3) (by decide) (zhat_mem (i := 91) (by decide +kernel)) rfl rfl (by decide +kernel) rfl rfl dk1_26 fun f26 H locs e26 hlen h => ?_
  subst e11
  subst e16
  subst e21
  subst e26
  exact W.vret hx hb BB.returns (fun t ht hW => ⟨⟨_, rfl, ⟨q8, rfl⟩, by rw [ht]; exact h.1, h.2.1⟩, h.2.2.F ht⟩) h.2.2.2.2 dk1_29
theorem dk3_0 : decode prog_7_method_1_code 0 = .ok (.aload_n 0, 1) := by decide +kernel
theorem dk3_1 : decode prog_7_method_1_code 1 = .ok (.invokespecial 3, 3) := by decide +kernel
theorem dk3_4 : decode prog_7_method_1_code 4 = .ok (.aload_n 0, 1) := by decide +kernel
theorem dk3_5 : decode prog_7_method_1_code 5 = .ok (.bipush 6, 2) := by decide +kernel
theorem dk3_7 : decode prog_7_method_1_code 7 = .ok (.newarray .int, 2) := by decide +kernel
theorem dk3_9 : decode prog_7_method_1_code 9 = .ok (.putfield 9, 3) := by decide +kernel
theorem dk3_12 : decode prog_7_method_1_code 12 = .ok (.aload_n 0, 1) := by decide +kernel
theorem dk3_13 : decode prog_7_method_1_code 13 = .ok (.iconst 0, 1) := by decide +kernel
theorem dk3_14 : decode prog_7_method_1_code 14 = .ok (.putfield 15, 3) := by decide +kernel
theorem dk3_17 : decode prog_7_method_1_code 17 = .ok (.return_, 1) := by decide +kernel
def yk3 : MethodName := ⟨"PageKeeper$Pool", "<init>", "()V"⟩
set_option maxRecDepth 20000 in
theorem wk3 : Cond.code yk3 prog_7_method_1_code 1 none ∈ zWS := List.mem_filter.mpr ⟨List.mem_of_getElem? (i := 105) (show lw_tbl[105]? = some (.code yk3 prog_7_method_1_code 1 none) from rfl), rfl⟩
theorem wi3 : Cond.instanceMethod yk3 ∈ zWS := (zhat_mem (i := 104) (by decide +kernel))
theorem wn3 : Cond.initialized "PageKeeper$Pool" ∈ zWS ∧ Cond.instantiable "PageKeeper$Pool" 2 ∈ zWS := ⟨(zhat_mem (i := 56) (by decide +kernel)), (zhat_mem (i := 102) (by decide +kernel))⟩
def ck3 (ty : Nat → ClassId) (q : Nat) (ws : va_W) : Prop := ∃ a : Nat, ws = [(q, .inr (3, [.ref a, .int 0])), (a, .inl (ty 0, 6, .inl (fun _ => 0)))]
abbrev fk3 : List Value := [.null, .int 0]
theorem vk3 : ∀ j, j < 2 → defaultValue (zty3 j) = vp_V fk3 j := by
  intro j hj
  match j, hj with
  | 0, _ => rfl
  | 1, _ => rfl
  | _ + 2, h => exact absurd h (by omega)
abbrev rk3 : Room := { frames := 1, locals := 12, cells := 1, slots := 6 }
set_option maxRecDepth 100000 in
theorem kk3 (l : Launch) (D : va_G) (ty : Nat → ClassId) (h0 sz : Nat) : Met l yk3 (Cond.code yk3 prog_7_method_1_code 1 none :: zWS) rk3 (cPc D ty h0 (.inr (3, fk3)) sz) (cQ D h0 (.inr (3, fk3)) sz (ck3 ty h0)) 1 6 (va_A [(h0, .inr (3, fk3))] sz) := by
  refine Met.ofW (cc := prog_7_method_1_code) (maxL := 1) (ret := none) (by decide +kernel) rfl ?_
  intro p e s m args below meth c s₁ BB hml hv
  obtain ⟨rfl, hsz, hP, hK⟩ := hv
  subst hsz
  have hws : ∀ w ∈ Cond.code yk3 prog_7_method_1_code 1 none :: zWS, w.before _ s = true := atoms_spec BB.pre
  have hat : ∀ w ∈ zWS, w.before _ s = true := fun w hw => hws w (List.mem_cons_of_mem _ hw)
  have hin : meth.name = "<init>" := (name_of_methodNamed BB.named BB.method).1
  have C : cCx p s m _ c D ty (va_A [(h0, .inr (3, fk3))] s.heap.size) "PageKeeper$Pool" prog_7_method_1_code 1 := ⟨⟨BB.exec, BB.bytes, hml⟩, ⟨findClass_of_methodNamed BB.named, hat⟩, hK, fun q hq => Or.inr hq⟩
  have h : cSt D (va_A [(h0, .inr (3, fk3))] s.heap.size) s [(h0, .inr (3, fk3))] s.heap [] := ⟨hP, cD1 _ _ _, va_S.rf⟩
  have hlen : (fk3).length = 2 := rfl
  have hx := C.1.1
  have hb := C.1.2.1
  have hl := lv_entry ([.ref h0]) (n := 1) (Nat.le_of_ble_eq_true rfl)
  rw [lg_entry_eq]
  generalize (lg_sl ([.ref h0]) ++ List.replicate (1 - (lg_sl ([.ref h0])).length) Slot.unset).toArray = ls at hl ⊢
  have hl : lv_has ls 1 [(0, .ref h0)] := hl
  refine lv_aload_n hx hb dk3_0 rfl (lv_at hl 0 rfl) ?_
  refine W.objInit hx hb C.2.1.1 (hat _ (zhat_mem (i := 106) (by decide +kernel))) (hat _ zrow_ok.2.2.2.2.2.1) (hat _ zrow_ok.2.2.2.2.2.2) rfl (by rw [hml]; exact hl.1) rfl dk3_1 (Nat.le_of_ble_eq_true rfl) (Nat.le_of_ble_eq_true rfl) ?_
  refine W.eq (g2 := F0 m 4 ls []) rfl ?_
  refine lv_aload_n hx hb dk3_4 rfl (lv_at hl 0 rfl) ?_
  refine lv_bipush (v := 6) hx hb dk3_5 (by decide) ?_
  refine cna (N' := 6) 0 C h (zhat_mem (i := 114) (by decide +kernel)) rfl rfl rfl (by decide) (by decide) (by decide) (Nat.le_of_ble_eq_true rfl) (Nat.le_of_ble_eq_true rfl) dk3_7 fun q7 H h => ?_
  refine cfr (ft := (.array .int)) C hin h hlen rfl rfl (k := 0) (by decide) (zhat_mem (i := 107) (by decide +kernel)) rfl rfl (by decide +kernel) rfl rfl dk3_9 fun f9 H locs e9 hlen h => ?_
  refine lv_aload_n hx hb dk3_12 rfl (lv_at hl 0 rfl) ?_
  refine lv_iconst (v := 0) hx hb dk3_13 (by decide) ?_
  refine cfi (ft := .int) C h hlen rfl (k := 1) (by decide) (zhat_mem (i := 108) (by decide +kernel)) rfl rfl (by decide +kernel) rfl rfl dk3_14 fun f14 H locs e14 hlen h => ?_
  subst e9
  subst e14
  exact W.vret hx hb BB.returns (fun t ht hW => ⟨⟨_, rfl, ⟨q7, rfl⟩, by rw [ht]; exact h.1, h.2.1⟩, h.2.2.F ht⟩) h.2.2.2.2 dk3_17
theorem dk4_0 : decode prog_3_method_1_code 0 = .ok (.aload_n 0, 1) := by decide +kernel
theorem dk4_1 : decode prog_3_method_1_code 1 = .ok (.invokespecial 3, 3) := by decide +kernel
theorem dk4_4 : decode prog_3_method_1_code 4 = .ok (.aload_n 0, 1) := by decide +kernel
theorem dk4_5 : decode prog_3_method_1_code 5 = .ok (.iconst 4, 1) := by decide +kernel
theorem dk4_6 : decode prog_3_method_1_code 6 = .ok (.bipush 40, 2) := by decide +kernel
theorem dk4_8 : decode prog_3_method_1_code 8 = .ok (.multianewarray 9 2, 4) := by decide +kernel
theorem dk4_12 : decode prog_3_method_1_code 12 = .ok (.putfield 11, 3) := by decide +kernel
theorem dk4_15 : decode prog_3_method_1_code 15 = .ok (.aload_n 0, 1) := by decide +kernel
theorem dk4_16 : decode prog_3_method_1_code 16 = .ok (.bipush 40, 2) := by decide +kernel
theorem dk4_18 : decode prog_3_method_1_code 18 = .ok (.newarray .int, 2) := by decide +kernel
theorem dk4_20 : decode prog_3_method_1_code 20 = .ok (.putfield 16, 3) := by decide +kernel
theorem dk4_23 : decode prog_3_method_1_code 23 = .ok (.return_, 1) := by decide +kernel
def yk4 : MethodName := ⟨"PageKeeper$Locks", "<init>", "()V"⟩
set_option maxRecDepth 20000 in
theorem wk4 : Cond.code yk4 prog_3_method_1_code 1 none ∈ zWS := List.mem_filter.mpr ⟨List.mem_of_getElem? (i := 119) (show lw_tbl[119]? = some (.code yk4 prog_3_method_1_code 1 none) from rfl), rfl⟩
theorem wi4 : Cond.instanceMethod yk4 ∈ zWS := (zhat_mem (i := 118) (by decide +kernel))
theorem wn4 : Cond.initialized "PageKeeper$Locks" ∈ zWS ∧ Cond.instantiable "PageKeeper$Locks" 2 ∈ zWS := ⟨(zhat_mem (i := 57) (by decide +kernel)), (zhat_mem (i := 116) (by decide +kernel))⟩
def ck4 (ty : Nat → ClassId) (q : Nat) (ws : va_W) : Prop := ∃ a b : Nat, ws = (q, .inr (4, [.ref a, .ref b])) :: (cgrid ty a ++ [(b, .inl (ty 0, 40, .inl (fun _ => 0)))])
abbrev fk4 : List Value := [.null, .null]
theorem vk4 : ∀ j, j < 2 → defaultValue (zty4 j) = vp_V fk4 j := by
  intro j hj
  match j, hj with
  | 0, _ => rfl
  | 1, _ => rfl
  | _ + 2, h => exact absurd h (by omega)
abbrev rk4 : Room := { frames := 1, locals := 12, cells := 6, slots := 204 }
set_option maxRecDepth 100000 in
theorem kk4 (l : Launch) (D : va_G) (ty : Nat → ClassId) (h0 sz : Nat) : Met l yk4 (Cond.code yk4 prog_3_method_1_code 1 none :: zWS) rk4 (cPc D ty h0 (.inr (4, fk4)) sz) (cQ D h0 (.inr (4, fk4)) sz (ck4 ty h0)) 6 204 (va_A [(h0, .inr (4, fk4))] sz) := by
  refine Met.ofW (cc := prog_3_method_1_code) (maxL := 1) (ret := none) (by decide +kernel) rfl ?_
  intro p e s m args below meth c s₁ BB hml hv
  obtain ⟨rfl, hsz, hP, hK⟩ := hv
  subst hsz
  have hws : ∀ w ∈ Cond.code yk4 prog_3_method_1_code 1 none :: zWS, w.before _ s = true := atoms_spec BB.pre
  have hat : ∀ w ∈ zWS, w.before _ s = true := fun w hw => hws w (List.mem_cons_of_mem _ hw)
  have hin : meth.name = "<init>" := (name_of_methodNamed BB.named BB.method).1
  have C : cCx p s m _ c D ty (va_A [(h0, .inr (4, fk4))] s.heap.size) "PageKeeper$Locks" prog_3_method_1_code 1 := ⟨⟨BB.exec, BB.bytes, hml⟩, ⟨findClass_of_methodNamed BB.named, hat⟩, hK, fun q hq => Or.inr hq⟩
  have h : cSt D (va_A [(h0, .inr (4, fk4))] s.heap.size) s [(h0, .inr (4, fk4))] s.heap [] := ⟨hP, cD1 _ _ _, va_S.rf⟩
  have hlen : (fk4).length = 2 := rfl
  have hx := C.1.1
  have hb := C.1.2.1
  have hl := lv_entry ([.ref h0]) (n := 1) (Nat.le_of_ble_eq_true rfl)
  rw [lg_entry_eq]
  generalize (lg_sl ([.ref h0]) ++ List.replicate (1 - (lg_sl ([.ref h0])).length) Slot.unset).toArray = ls at hl ⊢
  have hl : lv_has ls 1 [(0, .ref h0)] := hl
  refine lv_aload_n hx hb dk4_0 rfl (lv_at hl 0 rfl) ?_
  refine W.objInit hx hb C.2.1.1 (hat _ (zhat_mem (i := 120) (by decide +kernel))) (hat _ zrow_ok.2.2.2.2.2.1) (hat _ zrow_ok.2.2.2.2.2.2) rfl (by rw [hml]; exact hl.1) rfl dk4_1 (Nat.le_of_ble_eq_true rfl) (Nat.le_of_ble_eq_true rfl) ?_
  refine W.eq (g2 := F0 m 4 ls []) rfl ?_
  refine lv_aload_n hx hb dk4_4 rfl (lv_at hl 0 rfl) ?_
  refine lv_iconst (v := 4) hx hb dk4_5 (by decide) ?_
  refine lv_bipush (v := 40) hx hb dk4_6 (by decide) ?_
  refine cmn C h (zhat_mem (i := 121) (by decide +kernel)) (zhat_mem (i := 114) (by decide +kernel)) (Nat.le_of_ble_eq_true rfl) (Nat.le_of_ble_eq_true rfl) dk4_8 fun q8 H h => ?_
  refine cfr (ft := (.array (.array .int))) C hin h hlen rfl rfl (k := 0) (by decide) (zhat_mem (i := 123) (by decide +kernel)) rfl rfl (by decide +kernel) rfl rfl dk4_12 fun f12 H locs e12 hlen h => ?_
  refine lv_aload_n hx hb dk4_15 rfl (lv_at hl 0 rfl) ?_
  refine lv_bipush (v := 40) hx hb dk4_16 (by decide) ?_
  refine cna (N' := 40) 0 C h (zhat_mem (i := 114) (by decide +kernel)) rfl rfl rfl (by decide) (by decide) (by decide) (Nat.le_of_ble_eq_true rfl) (Nat.le_of_ble_eq_true rfl) dk4_18 fun q18 H h => ?_
  refine cfr (ft := (.array .int)) C hin h hlen rfl rfl (k := 1) (by decide) (zhat_mem (i := 125) (by decide +kernel)) rfl rfl (by decide +kernel) rfl rfl dk4_20 fun f20 H locs e20 hlen h => ?_
  subst e12
  subst e20
  exact W.vret hx hb BB.returns (fun t ht hW => ⟨⟨_, rfl, ⟨q8, q18, rfl⟩, by rw [ht]; exact h.1, h.2.1⟩, h.2.2.F ht⟩) h.2.2.2.2 dk4_23
