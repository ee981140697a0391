/-! The law's loop. The first rows are the skeleton's. -/
def R_law : String := "PageKeeperLaw"
def lw_P (b : Addr) (xs : List Int32) (args : Array Value) (s : State) : Prop := args = #[.ref b] ∧ s.IntsAt b xs ∧ xs.length ≤ 4 ∧ (Jvm.Cond.and given_1 narrow_1).before args s = true
def lw_Q (_ : Array Value) (s : State) (o : Outcome) (t : State) : Prop := o = .returned (some (.int 1)) ∧ Framed s o t [] 600002 7302232
def lw_Z (below : List Frame) (a : Array Value) (s : State) : State → Prop := fun t => ∃ o, t.status = .running ∧ Ended t below o ∧ lw_Q a s o t
/-- the law's own end, with 1 on the stack, nothing written that was there before, its room as the claim has it -/
theorem lw_ret {p : Program} {l : Launch} {e : Env} {s : State} {m : MethodId} {below : List Frame} {meth : Method} {c : Code} {b : Nat} (hx : p.tables.exec = Jvm.exec) (hb : c.code = code) (hr : meth.sig.returnType = ret) (hlocks : meth.locks = false) {pc : Nat} {H : Heap} {ls : Array Slot} (hdg : decode code pc = .ok (.ireturn, 1)) : W p l e room_1 s m #[Value.ref b] below meth c H [] 600002 7302232 (lw_Z below #[Value.ref b] s) (F0 m pc ls [.int 1]) := by
  intro T hT X
  obtain ⟨fs, hret, hrun, hended, hW, hframe⟩ := X.leave (v := some (.int 1)) (hlocks := hlocks) (fun h => by rw [hr] at h; cases h)
  have hmeth' : T.vm.method? m = some meth := X.method'
  refine ⟨T.setFrames fs, ?_, .returned (some (.int 1)), hrun, hended, rfl, ⟨_, rfl⟩, hW, hframe⟩
  jvm_step X.here [X.here.top, hx, hb, hdg, hmeth', hr, ret, narrow_b1]
  (try refine ⟨rfl, ?_⟩); (try refine ⟨rfl, ?_⟩)
  first | (intro acts; rw [hret _ acts rfl rfl rfl]) | rw [hret _ _ rfl rfl rfl]
  exact Steps.refl _
/-- what holds at the law's entry: the machine, the code, the tables' words (any of lw_tbl by 'hts w (by decide +kernel)'), the script of L ints xs at the cell b, what the Statement gives of the start (any of its parts by flat_of_before) -/
def lw_At (p : Program) (s : State) (m : MethodId) (meth : Method) (c : Code) (b L : Nat) (xs : Nat → Int32) : Prop :=
  p.tables.exec = Jvm.exec ∧ c.code = code ∧ meth.sig.returnType = ret ∧ c.maxLocals = 7 ∧ s.vm.findClass R_law = some m.cls ∧ (∀ w ∈ lw_tbl, w.before #[Value.ref b] s = true) ∧ va_X b L xs s s.heap ∧ b < s.heap.size ∧ meth.locks = false ∧ (Jvm.Cond.and given_1 narrow_1).before #[Value.ref b] s = true
def lOp (op : Nat) (a1 a2 a3 : Int32) (t t2 : zT) : Prop := match op with
  | 0 => lOpA 0 104 false [.inl a1] t t2
  | 1 => lOpA 1 106 true [.inl a1, .inl a2] t t2
  | 2 => lOpA 2 107 false [.inl a1, .inl a2, .inl a3] t t2
  | 3 => lOpA 3 108 true [.inl a1, .inl a2] t t2
  | 4 => lOpA 4 109 false [.inl a1] t t2
  | 5 => lOpA 5 110 false [.inl a1] t t2
  | 6 => lOpB 6 111 [] t t2
  | 7 => lOpB 7 113 [.inl a1] t t2
  | 8 => lOpB 8 114 [.inl a1] t t2
  | 9 => lOpB 9 115 [.inl a1] t t2
  | 10 => lOpB 10 116 [] t t2
  | 11 => lOpB 11 118 [.inl a1, .inl a2] t t2
  | 12 => lOpB 12 119 [.inl a1, .inl a2] t t2
  | 13 => lOpB 13 120 [.inl a1] t t2
  | 14 => lOpB 14 121 [.inl a1, .inl a2] t t2
  | _ => lOpB 15 122 [.inl a1, .inl a2] t t2
theorem lOpA_md {m mm : Nat} {th : Bool} {as : List zV} {t t2 : zT} (h : lOpA m mm th as t t2) : t.2 ≤ t2.2 := by
  obtain ⟨N1, N2, o, t1, r, z1, -, z2, -⟩ := h
  exact Nat.le_trans (zrun_md _ _ _ _ _ z1) (zrun_md _ _ _ _ _ z2)
theorem lOpB_md {m mm : Nat} {as : List zV} {t t2 : zT} (h : lOpB m mm as t t2) : t.2 ≤ t2.2 := by
  obtain ⟨N1, N2, v, t1, z1, z2⟩ := h
  exact Nat.le_trans (zrun_md _ _ _ _ _ z1) (zrun_md _ _ _ _ _ z2)
theorem lOp_md {op : Nat} {a1 a2 a3 : Int32} {t t2 : zT} (h : lOp op a1 a2 a3 t t2) : t.2 ≤ t2.2 := by
  unfold lOp at h
  split at h
  all_goals first
    | exact lOpA_md h
    | exact lOpB_md h
theorem land15 (v : Int32) : ∃ k : Nat, k < 16 ∧ (v &&& 15).toInt = (k : Int) := by
  have h := Jvm.Kit.i32_mask v 15 (k := 4) (by decide) (by decide)
  have h1 : (0 : Int) ≤ v.toInt % 2 ^ 4 := Int.emod_nonneg _ (by decide)
  have h2 : v.toInt % 2 ^ 4 < 2 ^ 4 := Int.emod_lt_of_pos _ (by decide)
  refine ⟨(v.toInt % 2 ^ 4).toNat, by omega, ?_⟩
  rw [h]
  omega
theorem lsub4 {L n : Nat} (hL : L ≤ 2048) (hn : n ≤ 2048) : (Int32.ofNat L - 4 < nI n) = (L < n + 4) := by
  have h1 : (Int32.ofNat L).toInt = (L : Int) := nI_toInt (by omega)
  have h2 : (nI n).toInt = (n : Int) := nI_toInt (by omega)
  have h3 : (Int32.ofNat L - 4).toInt = (L : Int) - 4 := by
    rw [Int32.toInt_sub, h1]
    show Int.bmod ((L : Int) - (4 : Int32).toInt) (2 ^ 32) = _
    rw [show ((4 : Int32).toInt) = 4 from rfl, Int.bmod_def]
    omega
  apply propext
  rw [Int32.lt_iff_toInt_lt, h2, h3]
  omega
set_option maxRecDepth 100000 in
theorem lloop {p : Program} {l : Launch} {e : Env} {s : State} {m0 : MethodId} {below : List Frame} {meth : Method} {c : Code} {D : va_G} {ty : Nat → ClassId} {cL : ClassId} {oa X M b L : Nat} {xs : Nat → Int32} {Inv : Nat → zT → Prop} {K c0 s0 : Nat} (hstep : ∀ n t, n < K → Inv n t → ∀ (op : Nat) (a1 a2 a3 : Int32), op < 16 → ∃ t2, lOp op a1 a2 a3 t t2 ∧ Inv (n + 1) t2) (hmade : ∀ n t, Inv n t → t.2 ≤ 1144) (hLK : L < 4 * K + 4) (hL : L ≤ 2048) (hK5 : K ≤ 512) (hc0 : c0 + 2000 ≤ 600002) (hs0 : s0 + 30000 ≤ 7302232)
    (C : lCx p l s m0 #[Value.ref b] c D ty (fun q => s.heap.size ≤ q) code 7) (hr : meth.sig.returnType = ret) (hlocks : meth.locks = false) (hn : lNn s) (hKL : va_K D zcl [(cL, .long)] s) (hAo : s.heap.size ≤ oa) (hX : va_X b L xs s s.heap) (hbl : b < s.heap.size) :
    ∀ (r n : Nat) (t : zT) (ad : zA) (H : Heap) (locs : List Loc) (f : Nat → Int64) (ls : Array Slot), L < 4 * n + 4 * r + 4 → n ≤ K → Inv n t → lSt D ty (fun q => s.heap.size ≤ q) s cL oa X M ad t H locs f → lv_has ls 7 [(0, .ref b), (1, .ref X), (2, .ref M), (3, .ref oa), (4, .int (nI (4 * n)))] →
      W p l e room_1 s m0 #[Value.ref b] below meth c H locs (c0 + t.2 + n) (s0 + 16 * t.2 + 6 * n) (lw_Z below #[Value.ref b] s) (F0 m0 23 ls []) := by
  have hx := C.1.1
  have hb := C.1.2.1
  have hbA : ¬ (fun q => s.heap.size ≤ q) b := Nat.not_le.mpr hbl
  intro r
  induction r with
  | zero =>
    intro n t ad H locs f ls hm hnK hI h hl
    have h1 := hmade n t hI
    refine lv_iload hx hb ld_23 (lv_at hl 4 rfl) ?_
    refine lv_aload_n hx hb ld_25 rfl (lv_at hl 0 rfl) ?_
    refine va_slen hx hb hX hbl hbA h.1.2.2 ld_26 ?_
    refine lv_iconst (v := 4) hx hb ld_27 (by decide) ?_
    refine lv_isub hx hb ld_28 ?_
    refine lv_icmp_gt (tgt := 780) hx hb ld_29 (by decide) (fun _ => ?_) (fun hg => ?_)
    · refine lv_iconst (v := 1) hx hb ld_780 (by decide) ?_
      refine W.widen (k := 600002) (n := 7302232) (by omega) (by omega) ?_
      refine va_forget h.1.2.2.2.2 ?_
      exact lw_ret hx hb hr hlocks ld_781
    · exfalso
      rw [lsub4 hL (by omega)] at hg
      omega
  | succ r ih =>
    intro n t ad H locs f ls hm hnK hI h hl
    have h1 := hmade n t hI
    refine lv_iload hx hb ld_23 (lv_at hl 4 rfl) ?_
    refine lv_aload_n hx hb ld_25 rfl (lv_at hl 0 rfl) ?_
    refine va_slen hx hb hX hbl hbA h.1.2.2 ld_26 ?_
    refine lv_iconst (v := 4) hx hb ld_27 (by decide) ?_
    refine lv_isub hx hb ld_28 ?_
    refine lv_icmp_gt (tgt := 780) hx hb ld_29 (by decide) (fun _ => ?_) (fun hg => ?_)
    · refine lv_iconst (v := 1) hx hb ld_780 (by decide) ?_
      refine W.widen (k := 600002) (n := 7302232) (by omega) (by omega) ?_
      refine va_forget h.1.2.2.2.2 ?_
      exact lw_ret hx hb hr hlocks ld_781
    · rw [lsub4 hL (by omega)] at hg
      have hj : 4 * n + 3 < L := by omega
      refine lv_aload_n hx hb ld_32 rfl (lv_at hl 0 rfl) ?_
      refine lv_iload hx hb ld_33 (lv_at hl 4 rfl) ?_
      refine va_sld hx hb hX hbl hbA h.1.2.2 (vp_in_nI (by omega) (by omega)) ld_35 ?_
      refine lv_bipush (v := 15) hx hb ld_36 (by decide) ?_
      refine lv_iand hx hb ld_38 ?_
      obtain ⟨k, hk, hk15⟩ := land15 (xs (nI (4 * n)).toNatClampNeg)
      obtain ⟨t2, hop, hI2⟩ := hstep n t (by omega) hI k (xs (4 * n + 1)) (xs (4 * n + 2)) (xs (4 * n + 3)) hk
      have hmd := lOp_md hop
      have h2 := hmade _ _ hI2
      have kk : ∀ (ad' : zA) (H' : Heap) (locs' : List Loc) (f' : Nat → Int64) (ls' : Array Slot), lSt D ty (fun q => s.heap.size ≤ q) s cL oa X M ad' t2 H' locs' f' → lv_has ls' 7 [(0, .ref b), (1, .ref X), (2, .ref M), (3, .ref oa), (4, .int (nI (4 * n)))] → W p l e room_1 s m0 #[Value.ref b] below meth c H' locs' (c0 + t.2 + n + (t2.2 - t.2) + 1) (s0 + 16 * t.2 + 6 * n + 16 * (t2.2 - t.2) + 6) (lw_Z below #[Value.ref b] s) (F0 m0 774 ls' []) := by
        intro ad' H' locs' f' ls' h' hl'
        refine W.widen (k := c0 + t2.2 + (n + 1)) (n := s0 + 16 * t2.2 + 6 * (n + 1)) (by omega) (by omega) ?_
        refine lv_iinc (k := 4) (x := nI (4 * n)) (v := nI (4 * (n + 1))) hx hb ld_774 hl' rfl (by rw [show Int32.ofInt 4 = nI 4 from rfl, nI_add, show 4 * n + 4 = 4 * (n + 1) by omega]) (by decide) rfl fun ls2 hl2 => ?_
        have hl2 : lv_has ls2 7 [(4, .int (nI (4 * (n + 1)))), (0, .ref b), (1, .ref X), (2, .ref M), (3, .ref oa)] := hl2
        refine lv_goto (tgt := 23) hx hb ld_777 (by decide) ?_
        exact ih (n + 1) t2 ad' H' locs' f' ls2 (by omega) (by omega) hI2 h' (lv_sub hl2 [1, 2, 3, 4, 0] rfl)
      have hc : c0 + t.2 + n + (t2.2 - t.2) + 1 ≤ 600002 := by omega
      have hs : s0 + 16 * t.2 + 6 * n + 16 * (t2.2 - t.2) + 6 ≤ 7302232 := by omega
      have hkk : k = 0 ∨ k = 1 ∨ k = 2 ∨ k = 3 ∨ k = 4 ∨ k = 5 ∨ k = 6 ∨ k = 7 ∨ k = 8 ∨ k = 9 ∨ k = 10 ∨ k = 11 ∨ k = 12 ∨ k = 13 ∨ k = 14 ∨ k = 15 := by omega
      rcases hkk with rfl | rfl | rfl | rfl | rfl | rfl | rfl | rfl | rfl | rfl | rfl | rfl | rfl | rfl | rfl | rfl
      · exact lv_tableIn (tgt := 116) hx hb ld_39 (by rw [hk15]; decide) (by rw [hk15]; decide) (by rw [hk15]; rfl) (by decide) (lop0 C hr hn hKL hAo hX hbl hbA hL hj h hl hop hc hs kk)
      · exact lv_tableIn (tgt := 172) hx hb ld_39 (by rw [hk15]; decide) (by rw [hk15]; decide) (by rw [hk15]; rfl) (by decide) (lop1 C hr hn hKL hAo hX hbl hbA hL hj h hl hop hc hs kk)
      · exact lv_tableIn (tgt := 240) hx hb ld_39 (by rw [hk15]; decide) (by rw [hk15]; decide) (by rw [hk15]; rfl) (by decide) (lop2 C hr hn hKL hAo hX hbl hbA hL hj h hl hop hc hs kk)
      · exact lv_tableIn (tgt := 320) hx hb ld_39 (by rw [hk15]; decide) (by rw [hk15]; decide) (by rw [hk15]; rfl) (by decide) (lop3 C hr hn hKL hAo hX hbl hbA hL hj h hl hop hc hs kk)
      · exact lv_tableIn (tgt := 388) hx hb ld_39 (by rw [hk15]; decide) (by rw [hk15]; decide) (by rw [hk15]; rfl) (by decide) (lop4 C hr hn hKL hAo hX hbl hbA hL hj h hl hop hc hs kk)
      · exact lv_tableIn (tgt := 444) hx hb ld_39 (by rw [hk15]; decide) (by rw [hk15]; decide) (by rw [hk15]; rfl) (by decide) (lop5 C hr hn hKL hAo hX hbl hbA hL hj h hl hop hc hs kk)
      · exact lv_tableIn (tgt := 500) hx hb ld_39 (by rw [hk15]; decide) (by rw [hk15]; decide) (by rw [hk15]; rfl) (by decide) (lop6 C hr hn hKL hAo hX hbl hbA hL hj h hl hop hc hs kk)
      · exact lv_tableIn (tgt := 513) hx hb ld_39 (by rw [hk15]; decide) (by rw [hk15]; decide) (by rw [hk15]; rfl) (by decide) (lop7 C hr hn hKL hAo hX hbl hbA hL hj h hl hop hc hs kk)
      · exact lv_tableIn (tgt := 538) hx hb ld_39 (by rw [hk15]; decide) (by rw [hk15]; decide) (by rw [hk15]; rfl) (by decide) (lop8 C hr hn hKL hAo hX hbl hbA hL hj h hl hop hc hs kk)
      · exact lv_tableIn (tgt := 563) hx hb ld_39 (by rw [hk15]; decide) (by rw [hk15]; decide) (by rw [hk15]; rfl) (by decide) (lop9 C hr hn hKL hAo hX hbl hbA hL hj h hl hop hc hs kk)
      · exact lv_tableIn (tgt := 588) hx hb ld_39 (by rw [hk15]; decide) (by rw [hk15]; decide) (by rw [hk15]; rfl) (by decide) (lop10 C hr hn hKL hAo hX hbl hbA hL hj h hl hop hc hs kk)
      · exact lv_tableIn (tgt := 601) hx hb ld_39 (by rw [hk15]; decide) (by rw [hk15]; decide) (by rw [hk15]; rfl) (by decide) (lop11 C hr hn hKL hAo hX hbl hbA hL hj h hl hop hc hs kk)
      · exact lv_tableIn (tgt := 638) hx hb ld_39 (by rw [hk15]; decide) (by rw [hk15]; decide) (by rw [hk15]; rfl) (by decide) (lop12 C hr hn hKL hAo hX hbl hbA hL hj h hl hop hc hs kk)
      · exact lv_tableIn (tgt := 675) hx hb ld_39 (by rw [hk15]; decide) (by rw [hk15]; decide) (by rw [hk15]; rfl) (by decide) (lop13 C hr hn hKL hAo hX hbl hbA hL hj h hl hop hc hs kk)
      · exact lv_tableIn (tgt := 700) hx hb ld_39 (by rw [hk15]; decide) (by rw [hk15]; decide) (by rw [hk15]; rfl) (by decide) (lop14 C hr hn hKL hAo hX hbl hbA hL hj h hl hop hc hs kk)
      · exact lv_tableIn (tgt := 737) hx hb ld_39 (by rw [hk15]; decide) (by rw [hk15]; decide) (by rw [hk15]; rfl) (by decide) (lop15 C hr hn hKL hAo hX hbl hbA hL hj h hl hop hc hs kk)
