/-! The class's constructor. Printed by ctorgen.py. -/
theorem dk0_0 : decode prog_1_method_1_code 0 = .ok (.aload_n 0, 1) := by decide +kernel
theorem dk0_1 : decode prog_1_method_1_code 1 = .ok (.invokespecial 3, 3) := by decide +kernel
theorem dk0_4 : decode prog_1_method_1_code 4 = .ok (.aload_n 0, 1) := by decide +kernel
theorem dk0_5 : decode prog_1_method_1_code 5 = .ok (.new 9, 3) := by decide +kernel
theorem dk0_8 : decode prog_1_method_1_code 8 = .ok (.dup, 1) := by decide +kernel
theorem dk0_9 : decode prog_1_method_1_code 9 = .ok (.invokespecial 11, 3) := by decide +kernel
theorem dk0_12 : decode prog_1_method_1_code 12 = .ok (.putfield 12, 3) := by decide +kernel
theorem dk0_15 : decode prog_1_method_1_code 15 = .ok (.aload_n 0, 1) := by decide +kernel
theorem dk0_16 : decode prog_1_method_1_code 16 = .ok (.new 16, 3) := by decide +kernel
theorem dk0_19 : decode prog_1_method_1_code 19 = .ok (.dup, 1) := by decide +kernel
theorem dk0_20 : decode prog_1_method_1_code 20 = .ok (.invokespecial 18, 3) := by decide +kernel
theorem dk0_23 : decode prog_1_method_1_code 23 = .ok (.putfield 19, 3) := by decide +kernel
theorem dk0_26 : decode prog_1_method_1_code 26 = .ok (.aload_n 0, 1) := by decide +kernel
theorem dk0_27 : decode prog_1_method_1_code 27 = .ok (.new 23, 3) := by decide +kernel
theorem dk0_30 : decode prog_1_method_1_code 30 = .ok (.dup, 1) := by decide +kernel
theorem dk0_31 : decode prog_1_method_1_code 31 = .ok (.invokespecial 25, 3) := by decide +kernel
theorem dk0_34 : decode prog_1_method_1_code 34 = .ok (.putfield 26, 3) := by decide +kernel
theorem dk0_37 : decode prog_1_method_1_code 37 = .ok (.aload_n 0, 1) := by decide +kernel
theorem dk0_38 : decode prog_1_method_1_code 38 = .ok (.bipush 40, 2) := by decide +kernel
theorem dk0_40 : decode prog_1_method_1_code 40 = .ok (.anewarray 30, 3) := by decide +kernel
theorem dk0_43 : decode prog_1_method_1_code 43 = .ok (.putfield 32, 3) := by decide +kernel
theorem dk0_46 : decode prog_1_method_1_code 46 = .ok (.aload_n 0, 1) := by decide +kernel
theorem dk0_47 : decode prog_1_method_1_code 47 = .ok (.iconst 1, 1) := by decide +kernel
theorem dk0_48 : decode prog_1_method_1_code 48 = .ok (.putfield 36, 3) := by decide +kernel
theorem dk0_51 : decode prog_1_method_1_code 51 = .ok (.aload_n 0, 1) := by decide +kernel
theorem dk0_52 : decode prog_1_method_1_code 52 = .ok (.iconst 4, 1) := by decide +kernel
theorem dk0_53 : decode prog_1_method_1_code 53 = .ok (.newarray .int, 2) := by decide +kernel
theorem dk0_55 : decode prog_1_method_1_code 55 = .ok (.putfield 40, 3) := by decide +kernel
theorem dk0_58 : decode prog_1_method_1_code 58 = .ok (.aload_n 0, 1) := by decide +kernel
theorem dk0_59 : decode prog_1_method_1_code 59 = .ok (.iconst 0, 1) := by decide +kernel
theorem dk0_60 : decode prog_1_method_1_code 60 = .ok (.putfield 44, 3) := by decide +kernel
theorem dk0_63 : decode prog_1_method_1_code 63 = .ok (.aload_n 0, 1) := by decide +kernel
theorem dk0_64 : decode prog_1_method_1_code 64 = .ok (.iconst 0, 1) := by decide +kernel
theorem dk0_65 : decode prog_1_method_1_code 65 = .ok (.putfield 47, 3) := by decide +kernel
theorem dk0_68 : decode prog_1_method_1_code 68 = .ok (.aload_n 0, 1) := by decide +kernel
theorem dk0_69 : decode prog_1_method_1_code 69 = .ok (.iconst 0, 1) := by decide +kernel
theorem dk0_70 : decode prog_1_method_1_code 70 = .ok (.putfield 50, 3) := by decide +kernel
theorem dk0_73 : decode prog_1_method_1_code 73 = .ok (.aload_n 0, 1) := by decide +kernel
theorem dk0_74 : decode prog_1_method_1_code 74 = .ok (.iconst 0, 1) := by decide +kernel
theorem dk0_75 : decode prog_1_method_1_code 75 = .ok (.putfield 53, 3) := by decide +kernel
theorem dk0_78 : decode prog_1_method_1_code 78 = .ok (.aload_n 0, 1) := by decide +kernel
theorem dk0_79 : decode prog_1_method_1_code 79 = .ok (.iconst 0, 1) := by decide +kernel
theorem dk0_80 : decode prog_1_method_1_code 80 = .ok (.putfield 56, 3) := by decide +kernel
theorem dk0_83 : decode prog_1_method_1_code 83 = .ok (.aload_n 0, 1) := by decide +kernel
theorem dk0_84 : decode prog_1_method_1_code 84 = .ok (.iconst 0, 1) := by decide +kernel
theorem dk0_85 : decode prog_1_method_1_code 85 = .ok (.putfield 59, 3) := by decide +kernel
theorem dk0_88 : decode prog_1_method_1_code 88 = .ok (.iconst 0, 1) := by decide +kernel
theorem dk0_89 : decode prog_1_method_1_code 89 = .ok (.istore_n 1, 1) := by decide +kernel
theorem dk0_90 : decode prog_1_method_1_code 90 = .ok (.iload_n 1, 1) := by decide +kernel
theorem dk0_91 : decode prog_1_method_1_code 91 = .ok (.bipush 40, 2) := by decide +kernel
theorem dk0_93 : decode prog_1_method_1_code 93 = .ok (.if_icmp .ge 22, 3) := by decide +kernel
theorem dk0_96 : decode prog_1_method_1_code 96 = .ok (.aload_n 0, 1) := by decide +kernel
theorem dk0_97 : decode prog_1_method_1_code 97 = .ok (.getfield 32, 3) := by decide +kernel
theorem dk0_100 : decode prog_1_method_1_code 100 = .ok (.iload_n 1, 1) := by decide +kernel
theorem dk0_101 : decode prog_1_method_1_code 101 = .ok (.new 30, 3) := by decide +kernel
theorem dk0_104 : decode prog_1_method_1_code 104 = .ok (.dup, 1) := by decide +kernel
theorem dk0_105 : decode prog_1_method_1_code 105 = .ok (.invokespecial 62, 3) := by decide +kernel
theorem dk0_108 : decode prog_1_method_1_code 108 = .ok (.aastore, 1) := by decide +kernel
theorem dk0_109 : decode prog_1_method_1_code 109 = .ok (.iinc 1 1, 3) := by decide +kernel
theorem dk0_112 : decode prog_1_method_1_code 112 = .ok (.goto (-22), 3) := by decide +kernel
theorem dk0_115 : decode prog_1_method_1_code 115 = .ok (.return_, 1) := by decide +kernel
def yk0 : MethodName := ⟨"PageKeeper", "<init>", "()V"⟩
set_option maxRecDepth 20000 in
theorem wk0 : Cond.code yk0 prog_1_method_1_code 2 none ∈ zWS := List.mem_filter.mpr ⟨List.mem_of_getElem? (i := 73) (show lw_tbl[73]? = some (.code yk0 prog_1_method_1_code 2 none) from rfl), rfl⟩
theorem wi0 : Cond.instanceMethod yk0 ∈ zWS := (zhat_mem (i := 72) (by decide +kernel))
theorem wn0 : Cond.initialized "PageKeeper" ∈ zWS ∧ Cond.instantiable "PageKeeper" 12 ∈ zWS := ⟨(zhat_mem (i := 54) (by decide +kernel)), (zhat_mem (i := 70) (by decide +kernel))⟩
abbrev fk0 : List Value := [.null, .null, .null, .null, .int 0, .null, .int 0, .int 0, .int 0, .int 0, .int 0, .int 0]
theorem vk0 : ∀ j, j < 12 → defaultValue (zty0 j) = vp_V fk0 j := by
  intro j hj
  match j, hj with
  | 0, _ => rfl
  | 1, _ => rfl
  | 2, _ => rfl
  | 3, _ => rfl
  | 4, _ => rfl
  | 5, _ => rfl
  | 6, _ => rfl
  | 7, _ => rfl
  | 8, _ => rfl
  | 9, _ => rfl
  | 10, _ => rfl
  | 11, _ => rfl
  | _ + 12, h => exact absurd h (by omega)
def cbase (ty : Nat → ClassId) (h0 lg rw po od lk hd lo pg sr : Nat) (f : Nat → Option Nat) : va_W := [(h0, .inr (0, [.ref lg, .ref po, .ref lk, .ref pg, .int 1, .ref sr, .int 0, .int 0, .int 0, .int 0, .int 0, .int 0])), (lg, .inr (1, [.ref rw, .int 0, .int 0, .int 0])), (rw, .inl (ty 4, 1145, .inr (.inr (.inr (.inr (fun _ => none)))))), (po, .inr (3, [.ref od, .int 0])), (od, .inl (ty 0, 6, .inl (fun _ => 0))), (lk, .inr (4, [.ref hd, .ref lo])), (hd, .inl (ty 6, 4, .inr (.inr (.inr (.inr (fun j => if j < 4 then some (hd + 1 + j) else none)))))), (hd + 1 + 0, .inl (ty 0, 40, .inl (fun _ => 0))), (hd + 1 + 1, .inl (ty 0, 40, .inl (fun _ => 0))), (hd + 1 + 2, .inl (ty 0, 40, .inl (fun _ => 0))), (hd + 1 + 3, .inl (ty 0, 40, .inl (fun _ => 0))), (lo, .inl (ty 0, 40, .inl (fun _ => 0))), (pg, .inl (ty 5, 40, .inr (.inr (.inr (.inr f))))), (sr, .inl (ty 0, 4, .inl (fun _ => 0)))]
def cpage (ty : Nat → ClassId) (q k a b : Nat) : va_W := [(q, .inr (5, [.ref k, .int 0, .int 0, .int 0, .int 0, .int (-1)])), (k, .inr (6, [.int 0, .int 0, .ref a, .ref b])), (a, .inl (ty 0, 4, .inl (fun _ => 0))), (b, .inl (ty 0, 4, .inl (fun _ => 0)))]
def cpl (ty : Nat → ClassId) (ad : zA) (n : Nat) : va_W := (List.range n).flatMap fun i => cpage ty (ad 11 i) (ad 12 i) (ad 13 i) (ad 14 i)
def cpf (ad : zA) (n : Nat) : Nat → Option Nat := fun j => if j < n then some (ad 11 j) else none
def cup (ad : zA) (n q k a b : Nat) : zA := fun K i => if i = n then (if K = 11 then q else if K = 12 then k else if K = 13 then a else b) else ad K i
theorem cpl_up (ty : Nat → ClassId) (ad : zA) (n q k a b : Nat) : cpl ty ad n ++ cpage ty q k a b = cpl ty (cup ad n q k a b) (n + 1) := by
  unfold cpl
  rw [List.range_succ, List.flatMap_append, List.flatMap_singleton]
  congr 1
  · rw [List.flatMap_def, List.flatMap_def]
    congr 1
    refine List.map_congr_left fun i hi => ?_
    have hi : i ≠ n := Nat.ne_of_lt (List.mem_range.mp hi)
    simp [cup, hi]
  · simp [cup]
theorem cpf_up (ad : zA) (n q k a b : Nat) : va_up (cpf ad n) n (some q) = cpf (cup ad n q k a b) (n + 1) := by
  funext j
  unfold va_up cpf cup
  by_cases hj : j = n
  · subst hj
    simp
  · by_cases hl : j < n
    · simp [hj, hl, Nat.lt_succ_of_lt hl]
    · have : ¬ j < n + 1 := by omega
      simp [hj, hl, this]
def ck0 (ty : Nat → ClassId) (q : Nat) (ws : va_W) : Prop := ∃ (lg rw po od lk hd lo pg sr : Nat) (ad : zA), ws = cbase ty q lg rw po od lk hd lo pg sr (cpf ad 40) ++ cpl ty ad 40
section CL
variable {p : Program} {l : Launch} {e : Env} {R : Room} {s : State} {m : MethodId} {args : Array Value} {below : List Frame} {meth : Method} {c : Code} {D : va_G} {ty : Nat → ClassId} {A : Nat → Prop} {Q : State → Prop}
set_option maxRecDepth 100000 in
theorem cpk_loop {h0 lg rw po od lk hd lo pg sr : Nat} (C : cCx p s m args c D ty A "PageKeeper" prog_1_method_1_code 2) (hRc : 173 ≤ R.cells) (hRs : 2127 ≤ R.slots) (hRf : 3 ≤ R.frames) (hRl : 52 ≤ R.locals)
    (kend : ∀ (ad : zA) (H : Heap) (locs : List Loc) (ls : Array Slot), cSt D A s (cbase ty h0 lg rw po od lk hd lo pg sr (cpf ad 40) ++ cpl ty ad 40) H locs → W p l e R s m args below meth c H locs 173 2127 Q (F0 m 115 ls [])) :
    ∀ (r n : Nat) (ad : zA) (H : Heap) (locs : List Loc) (ls : Array Slot), n + r = 40 → cSt D A s (cbase ty h0 lg rw po od lk hd lo pg sr (cpf ad n) ++ cpl ty ad n) H locs → lv_has ls 2 [(0, .ref h0), (1, .int (nI n))] → W p l e R s m args below meth c H locs (13 + 4 * n) (1407 + 18 * n) Q (F0 m 90 ls []) := by
  have hx := C.1.1
  have hb := C.1.2.1
  intro r
  induction r with
  | zero =>
    intro n ad H locs ls hn h hl
    have hn : n = 40 := by omega
    subst hn
    refine lv_iload_n hx hb dk0_90 rfl (lv_at hl 1 rfl) ?_
    refine lv_bipush (v := 40) hx hb dk0_91 (by decide) ?_
    refine lv_icmp_ge (tgt := 115) hx hb dk0_93 (by decide) (fun _ => ?_) (fun hg => absurd (show (40 : Int32) ≤ nI 40 by decide +kernel) hg)
    exact kend ad H locs ls h
  | succ r ih =>
    intro n ad H locs ls hn h hl
    refine lv_iload_n hx hb dk0_90 rfl (lv_at hl 1 rfl) ?_
    refine lv_bipush (v := 40) hx hb dk0_91 (by decide) ?_
    refine lv_icmp_ge (tgt := 115) hx hb dk0_93 (by decide) (fun hg => ?_) (fun _ => ?_)
    · exfalso
      have h1 : nI 40 ≤ nI n := hg
      rw [nI_le_iff (by omega) (by omega)] at h1
      omega
    refine lv_aload_n hx hb dk0_96 rfl (lv_at hl 0 rfl) ?_
    refine va_get (D := D) (ci := 0) (ref := "PageKeeper") (v := .ref pg) (C := zR0) (T := zT0) (N := 12) hx hb C.2.1.2 (zcl_in (c := 0) (r := (zR0, zT0, 12)) rfl) C.2.1.1 C.2.2.1.1 h.1 0 rfl rfl 3 (by decide) (C.2.1.2 _ (zhas_mem (by decide +kernel))) (fun _ hx => hx) rfl dk0_97 ?_
    refine lv_iload_n hx hb dk0_100 rfl (lv_at hl 1 rfl) ?_
    refine cnew (host := "PageKeeper") (ty0 := zty5) (fs := fk5) (rm := rk5) C h rfl ztyo5 vk5 (zhas_mem (by decide +kernel)) wn5.2 wn5.1 (fun q sz => kk5 l D ty q sz) wk5 wi5 rfl rfl (by decide +kernel) (by decide +kernel) (Or.inl (C.2.2.1.2.1 _ (by decide +kernel))) rfl rfl hRf hRl hl.1 (Nat.le_of_ble_eq_true rfl) dk0_101 dk0_104 dk0_105 (by omega) (by omega) fun q w1 H locs hB h => ?_
    obtain ⟨k, a, b, rfl⟩ := hB
    refine va_astq (r := (zR5, zT5, 6)) (n := 40) (f := cpf ad n) hx hb C.2.2.1.1 h.1 h.2.1 h.2.2 12 5 (cbase ty h0 lg rw po od lk hd lo pg sr (cpf ad n) ++ cpl ty ad n).length 5 rfl rfl (vs := [.ref k, .int 0, .int 0, .int 0, .int 0, .int (-1)]) (by rw [List.getElem?_append_right (Nat.le_refl _), Nat.sub_self]; rfl) rfl (vp_in_nI (by omega) (by omega)) dk0_108 fun H locs hP hD hS => ?_
    rw [nI_clamp (by omega), cpf_up ad n q k a b] at hP hD
    have hP : va_P D zcl ((cbase ty h0 lg rw po od lk hd lo pg sr (cpf (cup ad n q k a b) (n + 1)) ++ cpl ty ad n) ++ cpage ty q k a b) H := hP
    have hD : va_D A ((cbase ty h0 lg rw po od lk hd lo pg sr (cpf (cup ad n q k a b) (n + 1)) ++ cpl ty ad n) ++ cpage ty q k a b) := hD
    rw [List.append_assoc, cpl_up] at hP hD
    refine lv_iinc (k := 1) (x := nI n) (v := nI (n + 1)) hx hb dk0_109 hl rfl (nI_succ n).symm (by decide) rfl fun ls2 hl2 => ?_
    have hl2 : lv_has ls2 2 [(1, .int (nI (n + 1))), (0, .ref h0)] := hl2
    refine lv_goto (tgt := 90) hx hb dk0_112 (by decide) ?_
    refine W.widen (k := 13 + 4 * (n + 1)) (n := 1407 + 18 * (n + 1)) (by omega) (by omega) ?_
    exact ih (n + 1) (cup ad n q k a b) H locs ls2 (by omega) ⟨hP, hD, hS⟩ (lv_sub hl2 [1, 0] rfl)
end CL
abbrev rk0 : Room := { frames := 3, locals := 52, cells := 173, slots := 2127 }
set_option maxRecDepth 100000 in
theorem kk0 (l : Launch) (D : va_G) (ty : Nat → ClassId) (h0 sz : Nat) : Met l yk0 (Cond.code yk0 prog_1_method_1_code 2 none :: zWS) rk0 (cPc D ty h0 (.inr (0, fk0)) sz) (cQ D h0 (.inr (0, fk0)) sz (ck0 ty h0)) 173 2127 (va_A [(h0, .inr (0, fk0))] sz) := by
  refine Met.ofW (cc := prog_1_method_1_code) (maxL := 2) (ret := none) (by decide +kernel) rfl ?_
  intro p e s m args below meth c s₁ BB hml hv
  obtain ⟨rfl, hsz, hP, hK⟩ := hv
  subst hsz
  have hws : ∀ w ∈ Cond.code yk0 prog_1_method_1_code 2 none :: zWS, w.before _ s = true := atoms_spec BB.pre
  have hat : ∀ w ∈ zWS, w.before _ s = true := fun w hw => hws w (List.mem_cons_of_mem _ hw)
  have hin : meth.name = "<init>" := (name_of_methodNamed BB.named BB.method).1
  have C : cCx p s m _ c D ty (va_A [(h0, .inr (0, fk0))] s.heap.size) "PageKeeper" prog_1_method_1_code 2 := ⟨⟨BB.exec, BB.bytes, hml⟩, ⟨findClass_of_methodNamed BB.named, hat⟩, hK, fun q hq => Or.inr hq⟩
  have h : cSt D (va_A [(h0, .inr (0, fk0))] s.heap.size) s [(h0, .inr (0, fk0))] s.heap [] := ⟨hP, cD1 _ _ _, va_S.rf⟩
  have hlen : (fk0).length = 12 := rfl
  have hx := C.1.1
  have hb := C.1.2.1
  have hl := lv_entry ([.ref h0]) (n := 2) (Nat.le_of_ble_eq_true rfl)
  rw [lg_entry_eq]
  generalize (lg_sl ([.ref h0]) ++ List.replicate (2 - (lg_sl ([.ref h0])).length) Slot.unset).toArray = ls at hl ⊢
  have hl : lv_has ls 2 [(0, .ref h0)] := hl
  refine lv_aload_n hx hb dk0_0 rfl (lv_at hl 0 rfl) ?_
  refine W.objInit hx hb C.2.1.1 (hat _ (zhat_mem (i := 74) (by decide +kernel))) (hat _ zrow_ok.2.2.2.2.2.1) (hat _ zrow_ok.2.2.2.2.2.2) rfl (by rw [hml]; exact hl.1) rfl dk0_1 (Nat.le_of_ble_eq_true rfl) (Nat.le_of_ble_eq_true rfl) ?_
  refine W.eq (g2 := F0 m 4 ls []) rfl ?_
  refine lv_aload_n hx hb dk0_4 rfl (lv_at hl 0 rfl) ?_
  refine cnew (host := "PageKeeper") (ty0 := zty1) (fs := fk1) (rm := rk1) C h rfl ztyo1 vk1 (zhat_mem (i := 77) (by decide +kernel)) wn1.2 wn1.1 (fun q sz => kk1 l D ty q sz) wk1 wi1 rfl rfl (by decide +kernel) (by decide +kernel) (Or.inl (C.2.2.1.2.1 _ (by decide +kernel))) rfl rfl (Nat.le_of_ble_eq_true rfl) (Nat.le_of_ble_eq_true rfl) hl.1 (Nat.le_of_ble_eq_true rfl) dk0_5 dk0_8 dk0_9 (Nat.le_of_ble_eq_true rfl) (Nat.le_of_ble_eq_true rfl) fun q5 w1 H locs hB h => ?_
  obtain ⟨a5, rfl⟩ := hB
  refine cfr (ft := (.object "PageKeeper$Log")) C hin h hlen rfl rfl (k := 0) (by decide) (zhat_mem (i := 189) (by decide +kernel)) rfl rfl (by decide +kernel) rfl rfl dk0_12 fun f12 H locs e12 hlen h => ?_
  refine lv_aload_n hx hb dk0_15 rfl (lv_at hl 0 rfl) ?_
  refine cnew (host := "PageKeeper") (ty0 := zty3) (fs := fk3) (rm := rk3) C h rfl ztyo3 vk3 (zhat_mem (i := 101) (by decide +kernel)) wn3.2 wn3.1 (fun q sz => kk3 l D ty q sz) wk3 wi3 rfl rfl (by decide +kernel) (by decide +kernel) (Or.inl (C.2.2.1.2.1 _ (by decide +kernel))) rfl rfl (Nat.le_of_ble_eq_true rfl) (Nat.le_of_ble_eq_true rfl) hl.1 (Nat.le_of_ble_eq_true rfl) dk0_16 dk0_19 dk0_20 (Nat.le_of_ble_eq_true rfl) (Nat.le_of_ble_eq_true rfl) fun q16 w1 H locs hB h => ?_
  obtain ⟨a16, rfl⟩ := hB
  refine cfr (ft := (.object "PageKeeper$Pool")) C hin h hlen rfl rfl (k := 1) (by decide) (zhat_mem (i := 190) (by decide +kernel)) rfl rfl (by decide +kernel) rfl rfl dk0_23 fun f23 H locs e23 hlen h => ?_
  refine lv_aload_n hx hb dk0_26 rfl (lv_at hl 0 rfl) ?_
  refine cnew (host := "PageKeeper") (ty0 := zty4) (fs := fk4) (rm := rk4) C h rfl ztyo4 vk4 (zhat_mem (i := 115) (by decide +kernel)) wn4.2 wn4.1 (fun q sz => kk4 l D ty q sz) wk4 wi4 rfl rfl (by decide +kernel) (by decide +kernel) (Or.inl (C.2.2.1.2.1 _ (by decide +kernel))) rfl rfl (Nat.le_of_ble_eq_true rfl) (Nat.le_of_ble_eq_true rfl) hl.1 (Nat.le_of_ble_eq_true rfl) dk0_27 dk0_30 dk0_31 (Nat.le_of_ble_eq_true rfl) (Nat.le_of_ble_eq_true rfl) fun q27 w1 H locs hB h => ?_
  obtain ⟨a27, b27, rfl⟩ := hB
  refine cfr (ft := (.object "PageKeeper$Locks")) C hin h hlen rfl rfl (k := 2) (by decide) (zhat_mem (i := 191) (by decide +kernel)) rfl rfl (by decide +kernel) rfl rfl dk0_34 fun f34 H locs e34 hlen h => ?_
  refine lv_aload_n hx hb dk0_37 rfl (lv_at hl 0 rfl) ?_
  refine lv_bipush (v := 40) hx hb dk0_38 (by decide) ?_
  refine cnq (N' := 40) (Cn := "PageKeeper$Page") 5 C h (zhat_mem (i := 132) (by decide +kernel)) C.2.2.1.2.2.2.1 rfl (by decide) (by decide) (by decide) (Nat.le_of_ble_eq_true rfl) (Nat.le_of_ble_eq_true rfl) dk0_40 fun q40 H h => ?_
  refine cfr (ft := (.array (.object "PageKeeper$Page"))) C hin h hlen rfl rfl (k := 3) (by decide) (zhat_mem (i := 192) (by decide +kernel)) rfl rfl (by decide +kernel) rfl rfl dk0_43 fun f43 H locs e43 hlen h => ?_
  refine lv_aload_n hx hb dk0_46 rfl (lv_at hl 0 rfl) ?_
  refine lv_iconst (v := 1) hx hb dk0_47 (by decide) ?_
  refine cfi (ft := .int) C h hlen rfl (k := 4) (by decide) (zhat_mem (i := 193) (by decide +kernel)) rfl rfl (by decide +kernel) rfl rfl dk0_48 fun f48 H locs e48 hlen h => ?_
  refine lv_aload_n hx hb dk0_51 rfl (lv_at hl 0 rfl) ?_
  refine lv_iconst (v := 4) hx hb dk0_52 (by decide) ?_
  refine cna (N' := 4) 0 C h (zhat_mem (i := 114) (by decide +kernel)) rfl rfl rfl (by decide) (by decide) (by decide) (Nat.le_of_ble_eq_true rfl) (Nat.le_of_ble_eq_true rfl) dk0_53 fun q53 H h => ?_
  refine cfr (ft := (.array .int)) C hin h hlen rfl rfl (k := 5) (by decide) (zhat_mem (i := 194) (by decide +kernel)) rfl rfl (by decide +kernel) rfl rfl dk0_55 fun f55 H locs e55 hlen h => ?_
  refine lv_aload_n hx hb dk0_58 rfl (lv_at hl 0 rfl) ?_
  refine lv_iconst (v := 0) hx hb dk0_59 (by decide) ?_
  refine cfi (ft := .int) C h hlen rfl (k := 6) (by decide) (zhat_mem (i := 195) (by decide +kernel)) rfl rfl (by decide +kernel) rfl rfl dk0_60 fun f60 H locs e60 hlen h => ?_
  refine lv_aload_n hx hb dk0_63 rfl (lv_at hl 0 rfl) ?_
  refine lv_iconst (v := 0) hx hb dk0_64 (by decide) ?_
  refine cfi (ft := .int) C h hlen rfl (k := 7) (by decide) (zhat_mem (i := 196) (by decide +kernel)) rfl rfl (by decide +kernel) rfl rfl dk0_65 fun f65 H locs e65 hlen h => ?_
  refine lv_aload_n hx hb dk0_68 rfl (lv_at hl 0 rfl) ?_
  refine lv_iconst (v := 0) hx hb dk0_69 (by decide) ?_
  refine cfi (ft := .int) C h hlen rfl (k := 8) (by decide) (zhat_mem (i := 197) (by decide +kernel)) rfl rfl (by decide +kernel) rfl rfl dk0_70 fun f70 H locs e70 hlen h => ?_
  refine lv_aload_n hx hb dk0_73 rfl (lv_at hl 0 rfl) ?_
  refine lv_iconst (v := 0) hx hb dk0_74 (by decide) ?_
  refine cfi (ft := .int) C h hlen rfl (k := 9) (by decide) (zhat_mem (i := 198) (by decide +kernel)) rfl rfl (by decide +kernel) rfl rfl dk0_75 fun f75 H locs e75 hlen h => ?_
  refine lv_aload_n hx hb dk0_78 rfl (lv_at hl 0 rfl) ?_
  refine lv_iconst (v := 0) hx hb dk0_79 (by decide) ?_
  refine cfi (ft := .int) C h hlen rfl (k := 10) (by decide) (zhat_mem (i := 199) (by decide +kernel)) rfl rfl (by decide +kernel) rfl rfl dk0_80 fun f80 H locs e80 hlen h => ?_
  refine lv_aload_n hx hb dk0_83 rfl (lv_at hl 0 rfl) ?_
  refine lv_iconst (v := 0) hx hb dk0_84 (by decide) ?_
  refine cfi (ft := .int) C h hlen rfl (k := 11) (by decide) (zhat_mem (i := 200) (by decide +kernel)) rfl rfl (by decide +kernel) rfl rfl dk0_85 fun f85 H locs e85 hlen h => ?_
  subst e12
  subst e23
  subst e34
  subst e43
  subst e48
  subst e55
  subst e60
  subst e65
  subst e70
  subst e75
  subst e80
  subst e85
  refine lv_iconst (v := 0) hx hb dk0_88 (by decide) ?_
  refine lv_istore_n (i := 1) hx hb dk0_89 rfl hl (by decide) rfl fun ls2 hl2 => ?_
  have hl2 : lv_has ls2 2 [(1, .int (nI 0)), (0, .ref h0)] := hl2
  have h : cSt D (va_A [(h0, .inr (0, fk0))] s.heap.size) s (cbase ty h0 q5 a5 q16 a16 q27 a27 b27 q40 q53 (cpf (fun _ _ => 0) 0) ++ cpl ty (fun _ _ => 0) 0) H locs := h
  refine cpk_loop C (Nat.le_refl _) (Nat.le_refl _) (Nat.le_refl _) (Nat.le_refl _) (fun ad H locs ls h => ?_) 40 0 (fun _ _ => 0) H locs ls2 rfl h (lv_sub hl2 [1, 0] rfl)
  exact W.vret hx hb BB.returns (fun t ht hW => ⟨⟨_, rfl, ⟨q5, a5, q16, a16, q27, a27, b27, q40, q53, ad, rfl⟩, by rw [ht]; exact h.1, h.2.1⟩, h.2.2.F ht⟩) h.2.2.2.2 dk0_115
