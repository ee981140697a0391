/-! The reference's constructor. Printed by ctorgen.py. -/
theorem dk7_0 : decode prog_9_method_1_code 0 = .ok (.aload_n 0, 1) := by decide +kernel
theorem dk7_1 : decode prog_9_method_1_code 1 = .ok (.invokespecial 1, 3) := by decide +kernel
theorem dk7_4 : decode prog_9_method_1_code 4 = .ok (.aload_n 0, 1) := by decide +kernel
theorem dk7_5 : decode prog_9_method_1_code 5 = .ok (.sipush 1300, 3) := by decide +kernel
theorem dk7_8 : decode prog_9_method_1_code 8 = .ok (.newarray .byte, 2) := by decide +kernel
theorem dk7_10 : decode prog_9_method_1_code 10 = .ok (.putfield 7, 3) := by decide +kernel
theorem dk7_13 : decode prog_9_method_1_code 13 = .ok (.aload_n 0, 1) := by decide +kernel
theorem dk7_14 : decode prog_9_method_1_code 14 = .ok (.sipush 1300, 3) := by decide +kernel
theorem dk7_17 : decode prog_9_method_1_code 17 = .ok (.newarray .byte, 2) := by decide +kernel
theorem dk7_19 : decode prog_9_method_1_code 19 = .ok (.putfield 13, 3) := by decide +kernel
theorem dk7_22 : decode prog_9_method_1_code 22 = .ok (.aload_n 0, 1) := by decide +kernel
theorem dk7_23 : decode prog_9_method_1_code 23 = .ok (.sipush 1300, 3) := by decide +kernel
theorem dk7_26 : decode prog_9_method_1_code 26 = .ok (.newarray .short, 2) := by decide +kernel
theorem dk7_28 : decode prog_9_method_1_code 28 = .ok (.putfield 16, 3) := by decide +kernel
theorem dk7_31 : decode prog_9_method_1_code 31 = .ok (.aload_n 0, 1) := by decide +kernel
theorem dk7_32 : decode prog_9_method_1_code 32 = .ok (.sipush 1300, 3) := by decide +kernel
theorem dk7_35 : decode prog_9_method_1_code 35 = .ok (.newarray .byte, 2) := by decide +kernel
theorem dk7_37 : decode prog_9_method_1_code 37 = .ok (.putfield 20, 3) := by decide +kernel
theorem dk7_40 : decode prog_9_method_1_code 40 = .ok (.aload_n 0, 1) := by decide +kernel
theorem dk7_41 : decode prog_9_method_1_code 41 = .ok (.sipush 1300, 3) := by decide +kernel
theorem dk7_44 : decode prog_9_method_1_code 44 = .ok (.newarray .int, 2) := by decide +kernel
theorem dk7_46 : decode prog_9_method_1_code 46 = .ok (.putfield 23, 3) := by decide +kernel
theorem dk7_49 : decode prog_9_method_1_code 49 = .ok (.aload_n 0, 1) := by decide +kernel
theorem dk7_50 : decode prog_9_method_1_code 50 = .ok (.sipush 1300, 3) := by decide +kernel
theorem dk7_53 : decode prog_9_method_1_code 53 = .ok (.newarray .boolean, 2) := by decide +kernel
theorem dk7_55 : decode prog_9_method_1_code 55 = .ok (.putfield 27, 3) := by decide +kernel
theorem dk7_58 : decode prog_9_method_1_code 58 = .ok (.aload_n 0, 1) := by decide +kernel
theorem dk7_59 : decode prog_9_method_1_code 59 = .ok (.sipush 1300, 3) := by decide +kernel
theorem dk7_62 : decode prog_9_method_1_code 62 = .ok (.newarray .int, 2) := by decide +kernel
theorem dk7_64 : decode prog_9_method_1_code 64 = .ok (.putfield 31, 3) := by decide +kernel
theorem dk7_67 : decode prog_9_method_1_code 67 = .ok (.aload_n 0, 1) := by decide +kernel
theorem dk7_68 : decode prog_9_method_1_code 68 = .ok (.sipush 1300, 3) := by decide +kernel
theorem dk7_71 : decode prog_9_method_1_code 71 = .ok (.newarray .short, 2) := by decide +kernel
theorem dk7_73 : decode prog_9_method_1_code 73 = .ok (.putfield 34, 3) := by decide +kernel
theorem dk7_76 : decode prog_9_method_1_code 76 = .ok (.aload_n 0, 1) := by decide +kernel
theorem dk7_77 : decode prog_9_method_1_code 77 = .ok (.sipush 1300, 3) := by decide +kernel
theorem dk7_80 : decode prog_9_method_1_code 80 = .ok (.newarray .short, 2) := by decide +kernel
theorem dk7_82 : decode prog_9_method_1_code 82 = .ok (.putfield 37, 3) := by decide +kernel
theorem dk7_85 : decode prog_9_method_1_code 85 = .ok (.aload_n 0, 1) := by decide +kernel
theorem dk7_86 : decode prog_9_method_1_code 86 = .ok (.sipush 1000, 3) := by decide +kernel
theorem dk7_89 : decode prog_9_method_1_code 89 = .ok (.newarray .int, 2) := by decide +kernel
theorem dk7_91 : decode prog_9_method_1_code 91 = .ok (.putfield 40, 3) := by decide +kernel
theorem dk7_94 : decode prog_9_method_1_code 94 = .ok (.aload_n 0, 1) := by decide +kernel
theorem dk7_95 : decode prog_9_method_1_code 95 = .ok (.iconst 1, 1) := by decide +kernel
theorem dk7_96 : decode prog_9_method_1_code 96 = .ok (.putfield 43, 3) := by decide +kernel
theorem dk7_99 : decode prog_9_method_1_code 99 = .ok (.aload_n 0, 1) := by decide +kernel
theorem dk7_100 : decode prog_9_method_1_code 100 = .ok (.bipush 48, 2) := by decide +kernel
theorem dk7_102 : decode prog_9_method_1_code 102 = .ok (.newarray .int, 2) := by decide +kernel
theorem dk7_104 : decode prog_9_method_1_code 104 = .ok (.putfield 47, 3) := by decide +kernel
theorem dk7_107 : decode prog_9_method_1_code 107 = .ok (.aload_n 0, 1) := by decide +kernel
theorem dk7_108 : decode prog_9_method_1_code 108 = .ok (.bipush 48, 2) := by decide +kernel
theorem dk7_110 : decode prog_9_method_1_code 110 = .ok (.newarray .int, 2) := by decide +kernel
theorem dk7_112 : decode prog_9_method_1_code 112 = .ok (.putfield 50, 3) := by decide +kernel
theorem dk7_115 : decode prog_9_method_1_code 115 = .ok (.aload_n 0, 1) := by decide +kernel
theorem dk7_116 : decode prog_9_method_1_code 116 = .ok (.bipush 48, 2) := by decide +kernel
theorem dk7_118 : decode prog_9_method_1_code 118 = .ok (.newarray .boolean, 2) := by decide +kernel
theorem dk7_120 : decode prog_9_method_1_code 120 = .ok (.putfield 53, 3) := by decide +kernel
theorem dk7_123 : decode prog_9_method_1_code 123 = .ok (.aload_n 0, 1) := by decide +kernel
theorem dk7_124 : decode prog_9_method_1_code 124 = .ok (.bipush 48, 2) := by decide +kernel
theorem dk7_126 : decode prog_9_method_1_code 126 = .ok (.newarray .int, 2) := by decide +kernel
theorem dk7_128 : decode prog_9_method_1_code 128 = .ok (.putfield 56, 3) := by decide +kernel
theorem dk7_131 : decode prog_9_method_1_code 131 = .ok (.aload_n 0, 1) := by decide +kernel
theorem dk7_132 : decode prog_9_method_1_code 132 = .ok (.bipush 6, 2) := by decide +kernel
theorem dk7_134 : decode prog_9_method_1_code 134 = .ok (.newarray .int, 2) := by decide +kernel
theorem dk7_136 : decode prog_9_method_1_code 136 = .ok (.putfield 59, 3) := by decide +kernel
theorem dk7_139 : decode prog_9_method_1_code 139 = .ok (.aload_n 0, 1) := by decide +kernel
theorem dk7_140 : decode prog_9_method_1_code 140 = .ok (.bipush 6, 2) := by decide +kernel
theorem dk7_142 : decode prog_9_method_1_code 142 = .ok (.newarray .int, 2) := by decide +kernel
theorem dk7_144 : decode prog_9_method_1_code 144 = .ok (.putfield 62, 3) := by decide +kernel
theorem dk7_147 : decode prog_9_method_1_code 147 = .ok (.aload_n 0, 1) := by decide +kernel
theorem dk7_148 : decode prog_9_method_1_code 148 = .ok (.iconst 4, 1) := by decide +kernel
theorem dk7_149 : decode prog_9_method_1_code 149 = .ok (.newarray .int, 2) := by decide +kernel
theorem dk7_151 : decode prog_9_method_1_code 151 = .ok (.putfield 65, 3) := by decide +kernel
theorem dk7_154 : decode prog_9_method_1_code 154 = .ok (.aload_n 0, 1) := by decide +kernel
theorem dk7_155 : decode prog_9_method_1_code 155 = .ok (.sipush 160, 3) := by decide +kernel
theorem dk7_158 : decode prog_9_method_1_code 158 = .ok (.newarray .byte, 2) := by decide +kernel
theorem dk7_160 : decode prog_9_method_1_code 160 = .ok (.putfield 68, 3) := by decide +kernel
theorem dk7_163 : decode prog_9_method_1_code 163 = .ok (.iconst 0, 1) := by decide +kernel
theorem dk7_164 : decode prog_9_method_1_code 164 = .ok (.istore_n 1, 1) := by decide +kernel
theorem dk7_165 : decode prog_9_method_1_code 165 = .ok (.iload_n 1, 1) := by decide +kernel
theorem dk7_166 : decode prog_9_method_1_code 166 = .ok (.bipush 48, 2) := by decide +kernel
theorem dk7_168 : decode prog_9_method_1_code 168 = .ok (.if_icmp .ge 16, 3) := by decide +kernel
theorem dk7_171 : decode prog_9_method_1_code 171 = .ok (.aload_n 0, 1) := by decide +kernel
theorem dk7_172 : decode prog_9_method_1_code 172 = .ok (.getfield 56, 3) := by decide +kernel
theorem dk7_175 : decode prog_9_method_1_code 175 = .ok (.iload_n 1, 1) := by decide +kernel
theorem dk7_176 : decode prog_9_method_1_code 176 = .ok (.iconst (-1), 1) := by decide +kernel
theorem dk7_177 : decode prog_9_method_1_code 177 = .ok (.iastore, 1) := by decide +kernel
theorem dk7_178 : decode prog_9_method_1_code 178 = .ok (.iinc 1 1, 3) := by decide +kernel
theorem dk7_181 : decode prog_9_method_1_code 181 = .ok (.goto (-16), 3) := by decide +kernel
theorem dk7_184 : decode prog_9_method_1_code 184 = .ok (.return_, 1) := by decide +kernel
def yk7 : MethodName := ⟨"PageKeeperModel", "<init>", "()V"⟩
set_option maxRecDepth 20000 in
theorem wk7 : Cond.code yk7 prog_9_method_1_code 2 none ∈ zWS := List.mem_filter.mpr ⟨List.mem_of_getElem? (i := 719) (show lw_tbl[719]? = some (.code yk7 prog_9_method_1_code 2 none) from rfl), rfl⟩
theorem wi7 : Cond.instanceMethod yk7 ∈ zWS := (zhat_mem (i := 718) (by decide +kernel))
theorem wn7 : Cond.initialized "PageKeeperModel" ∈ zWS ∧ Cond.instantiable "PageKeeperModel" 32 ∈ zWS := ⟨(zhat_mem (i := 60) (by decide +kernel)), (zhat_mem (i := 716) (by decide +kernel))⟩
abbrev fk7 : List Value := [.int 0, .int 0, .int 0, .null, .null, .null, .null, .null, .null, .null, .null, .null, .int 0, .null, .int 0, .null, .null, .null, .null, .int 0, .int 0, .int 0, .int 0, .int 0, .int 0, .int 0, .null, .null, .null, .int 0, .int 0, .null]
theorem vk7 : ∀ j, j < 32 → defaultValue (zty7 j) = vp_V fk7 j := by
  intro j hj
  match j, hj with
  | 0, _ => rfl
  | 1, _ => rfl
  | 2, _ => rfl
  | 3, _ => rfl
  | 4, _ => rfl
  | 5, _ => rfl
  | 6, _ => rfl
  | 7, _ => rfl
  | 8, _ => rfl
  | 9, _ => rfl
  | 10, _ => rfl
  | 11, _ => rfl
  | 12, _ => rfl
  | 13, _ => rfl
  | 14, _ => rfl
  | 15, _ => rfl
  | 16, _ => rfl
  | 17, _ => rfl
  | 18, _ => rfl
  | 19, _ => rfl
  | 20, _ => rfl
  | 21, _ => rfl
  | 22, _ => rfl
  | 23, _ => rfl
  | 24, _ => rfl
  | 25, _ => rfl
  | 26, _ => rfl
  | 27, _ => rfl
  | 28, _ => rfl
  | 29, _ => rfl
  | 30, _ => rfl
  | 31, _ => rfl
  | _ + 32, h => exact absurd h (by omega)
def cmod (ty : Nat → ClassId) (h0 q8 q17 q26 q35 q44 q53 q62 q71 q80 q89 q102 q110 q118 q126 q134 q142 q149 q158 : Nat) (f : Nat → Int32) : va_W := [(h0, .inr (7, [.int 0, .int 0, .int 0, .ref q8, .ref q17, .ref q26, .ref q35, .ref q44, .ref q53, .ref q62, .ref q71, .ref q80, .int 0, .ref q89, .int 1, .ref q102, .ref q110, .ref q118, .ref q126, .int 0, .int 0, .int 0, .int 0, .int 0, .int 0, .int 0, .ref q134, .ref q142, .ref q149, .int 0, .int 0, .ref q158])), (q8, .inl (ty 1, 1300, .inl (fun _ => 0))), (q17, .inl (ty 1, 1300, .inl (fun _ => 0))), (q26, .inl (ty 2, 1300, .inl (fun _ => 0))), (q35, .inl (ty 1, 1300, .inl (fun _ => 0))), (q44, .inl (ty 0, 1300, .inl (fun _ => 0))), (q53, .inl (ty 3, 1300, .inl (fun _ => 0))), (q62, .inl (ty 0, 1300, .inl (fun _ => 0))), (q71, .inl (ty 2, 1300, .inl (fun _ => 0))), (q80, .inl (ty 2, 1300, .inl (fun _ => 0))), (q89, .inl (ty 0, 1000, .inl (fun _ => 0))), (q102, .inl (ty 0, 48, .inl (fun _ => 0))), (q110, .inl (ty 0, 48, .inl (fun _ => 0))), (q118, .inl (ty 3, 48, .inl (fun _ => 0))), (q126, .inl (ty 0, 48, .inl f)), (q134, .inl (ty 0, 6, .inl (fun _ => 0))), (q142, .inl (ty 0, 6, .inl (fun _ => 0))), (q149, .inl (ty 0, 4, .inl (fun _ => 0))), (q158, .inl (ty 1, 160, .inl (fun _ => 0)))]
def cmf (n : Nat) : Nat → Int32 := fun j => if j < n then -1 else 0
theorem cmf_up (n : Nat) : upd (cmf n) n (-1) = cmf (n + 1) := by
  funext j
  unfold upd cmf
  by_cases hj : j = n
  · subst hj
    simp
  · by_cases hl : j < n
    · simp [hj, hl, Nat.lt_succ_of_lt hl]
    · have : ¬ j < n + 1 := by omega
      simp [hj, hl, this]
def ck7 (ty : Nat → ClassId) (q : Nat) (ws : va_W) : Prop := ∃ q8 q17 q26 q35 q44 q53 q62 q71 q80 q89 q102 q110 q118 q126 q134 q142 q149 q158 : Nat, ws = cmod ty q q8 q17 q26 q35 q44 q53 q62 q71 q80 q89 q102 q110 q118 q126 q134 q142 q149 q158 (cmf 48)
section CM
variable {p : Program} {l : Launch} {e : Env} {R : Room} {s : State} {m : MethodId} {args : Array Value} {below : List Frame} {meth : Method} {c : Code} {D : va_G} {ty : Nat → ClassId} {A : Nat → Prop} {Q : State → Prop} {cells slots : Nat}
set_option maxRecDepth 100000 in
theorem cmod_loop {h0 q8 q17 q26 q35 q44 q53 q62 q71 q80 q89 q102 q110 q118 q126 q134 q142 q149 q158 : Nat} (C : cCx p s m args c D ty A "PageKeeperModel" prog_9_method_1_code 2)
    (kend : ∀ (H : Heap) (locs : List Loc) (ls : Array Slot), cSt D A s (cmod ty h0 q8 q17 q26 q35 q44 q53 q62 q71 q80 q89 q102 q110 q118 q126 q134 q142 q149 q158 (cmf 48)) H locs → W p l e R s m args below meth c H locs cells slots Q (F0 m 184 ls [])) :
    ∀ (r n : Nat) (H : Heap) (locs : List Loc) (ls : Array Slot), n + r = 48 → cSt D A s (cmod ty h0 q8 q17 q26 q35 q44 q53 q62 q71 q80 q89 q102 q110 q118 q126 q134 q142 q149 q158 (cmf n)) H locs → lv_has ls 2 [(0, .ref h0), (1, .int (nI n))] → W p l e R s m args below meth c H locs cells slots Q (F0 m 165 ls []) := by
  have hx := C.1.1
  have hb := C.1.2.1
  intro r
  induction r with
  | zero =>
    intro n H locs ls hn h hl
    have hn : n = 48 := by omega
    subst hn
    refine lv_iload_n hx hb dk7_165 rfl (lv_at hl 1 rfl) ?_
    refine lv_bipush (v := 48) hx hb dk7_166 (by decide) ?_
    refine lv_icmp_ge (tgt := 184) hx hb dk7_168 (by decide) (fun _ => ?_) (fun hg => absurd (show (48 : Int32) ≤ nI 48 by decide +kernel) hg)
    exact kend H locs ls h
  | succ r ih =>
    intro n H locs ls hn h hl
    refine lv_iload_n hx hb dk7_165 rfl (lv_at hl 1 rfl) ?_
    refine lv_bipush (v := 48) hx hb dk7_166 (by decide) ?_
    refine lv_icmp_ge (tgt := 184) hx hb dk7_168 (by decide) (fun hg => ?_) (fun _ => ?_)
    · exfalso
      have h1 : nI 48 ≤ nI n := hg
      rw [nI_le_iff (by omega) (by omega)] at h1
      omega
    refine lv_aload_n hx hb dk7_171 rfl (lv_at hl 0 rfl) ?_
    refine va_get (D := D) (ci := 7) (ref := "PageKeeperModel") (v := .ref q126) (C := zR7) (T := zT7) (N := 32) hx hb C.2.1.2 (zcl_in (c := 7) (r := (zR7, zT7, 32)) rfl) C.2.1.1 C.2.2.1.1 h.1 0 rfl rfl 18 (by decide) (C.2.1.2 _ (zhas_mem (by decide +kernel))) (fun _ hx => hx) rfl dk7_172 ?_
    refine lv_iload_n hx hb dk7_175 rfl (lv_at hl 1 rfl) ?_
    refine lv_iconst (v := -1) hx hb dk7_176 (by decide) ?_
    refine va_iast (n := 48) (f := cmf n) hx hb C.2.2.1.1 h.1 h.2.1 h.2.2 14 0 rfl rfl (vp_in_nI (by omega) (by omega)) dk7_177 fun H locs hP hD hS => ?_
    rw [nI_clamp (by omega), cmf_up n] at hP hD
    refine lv_iinc (k := 1) (x := nI n) (v := nI (n + 1)) hx hb dk7_178 hl rfl (nI_succ n).symm (by decide) rfl fun ls2 hl2 => ?_
    have hl2 : lv_has ls2 2 [(1, .int (nI (n + 1))), (0, .ref h0)] := hl2
    refine lv_goto (tgt := 165) hx hb dk7_181 (by decide) ?_
    exact ih (n + 1) H locs ls2 (by omega) ⟨hP, hD, hS⟩ (lv_sub hl2 [1, 0] rfl)
end CM
section CX
variable {p : Program} {l : Launch} {e : Env} {R : Room} {s : State} {m : MethodId} {args : Array Value} {below : List Frame} {meth : Method} {c : Code} {D : va_G} {ty : Nat → ClassId} {A : Nat → Prop} {own : String} {cc : ByteArray} {nL : Nat} {Q : State → Prop} {H : Heap} {locs : List Loc} {cells slots pc : Nat} {ls : Array Slot} {rest : List Value}
theorem cnax {n : Int32} {N' : Nat} {x : Nat × va_E} {ws : va_W} {atype : ArrayType} {ft : FieldType} (i : Nat) (C : cCx p s m args c D ty A own cc nL) (h : cSt D A s (x :: ws) H locs) (harr : Cond.arrayClass (newarray.typeOf atype) ∈ zWS) (hty : newarray.typeOf atype = ft) (hi : (ztys ty)[i]? = some (ty i, ft)) (hdv : defaultValue ft = .int 0) (hn : ¬ n < 0) (hN : n.toNatClampNeg = N') (hbytes : N' * componentBytes ft ≤ 536870912) (hcells : cells + 1 ≤ R.cells) (hslots : slots + N' ≤ R.slots) (hdg : decode cc pc = .ok (.newarray atype, 2))
    (kk : ∀ (q : Nat) (H1 : Heap), cSt D A s (x :: (ws ++ [(q, .inl (ty i, N', .inl (fun _ => 0)))])) H1 locs → W p l e R s m args below meth c H1 locs (cells + 1) (slots + N') Q (F0 m (pc + 2) ls (.ref q :: rest))) : W p l e R s m args below meth c H locs cells slots Q (F0 m pc ls (.int n :: rest)) := cna i C h harr hty hi hdv hn hN hbytes hcells hslots hdg kk
end CX
abbrev rk7 : Room := { frames := 1, locals := 12, cells := 18, slots := 13068 }
set_option maxHeartbeats 8000000 in
set_option maxRecDepth 100000 in
theorem kk7 (l : Launch) (D : va_G) (ty : Nat → ClassId) (h0 sz : Nat) : Met l yk7 (Cond.code yk7 prog_9_method_1_code 2 none :: zWS) rk7 (cPc D ty h0 (.inr (7, fk7)) sz) (cQ D h0 (.inr (7, fk7)) sz (ck7 ty h0)) 18 13068 (va_A [(h0, .inr (7, fk7))] sz) := by
  refine Met.ofW (cc := prog_9_method_1_code) (maxL := 2) (ret := none) (by decide +kernel) rfl ?_
  intro p e s m args below meth c s₁ BB hml hv
  obtain ⟨rfl, hsz, hP, hK⟩ := hv
  subst hsz
  have hws : ∀ w ∈ Cond.code yk7 prog_9_method_1_code 2 none :: zWS, w.before _ s = true := atoms_spec BB.pre
  have hat : ∀ w ∈ zWS, w.before _ s = true := fun w hw => hws w (List.mem_cons_of_mem _ hw)
  have hin : meth.name = "<init>" := (name_of_methodNamed BB.named BB.method).1
  have C : cCx p s m _ c D ty (va_A [(h0, .inr (7, fk7))] s.heap.size) "PageKeeperModel" prog_9_method_1_code 2 := ⟨⟨BB.exec, BB.bytes, hml⟩, ⟨findClass_of_methodNamed BB.named, hat⟩, hK, fun q hq => Or.inr hq⟩
  have h : cSt D (va_A [(h0, .inr (7, fk7))] s.heap.size) s [(h0, .inr (7, fk7))] s.heap [] := ⟨hP, cD1 _ _ _, va_S.rf⟩
  have hlen : (fk7).length = 32 := rfl
  have hx := C.1.1
  have hb := C.1.2.1
  have hl := lv_entry ([.ref h0]) (n := 2) (Nat.le_of_ble_eq_true rfl)
  rw [lg_entry_eq]
  generalize (lg_sl ([.ref h0]) ++ List.replicate (2 - (lg_sl ([.ref h0])).length) Slot.unset).toArray = ls at hl ⊢
  have hl : lv_has ls 2 [(0, .ref h0)] := hl
  refine lv_aload_n hx hb dk7_0 rfl (lv_at hl 0 rfl) ?_
  refine W.objInit hx hb C.2.1.1 (hat _ (zhat_mem (i := 720) (by decide +kernel))) (hat _ zrow_ok.2.2.2.2.2.1) (hat _ zrow_ok.2.2.2.2.2.2) rfl (by rw [hml]; exact hl.1) rfl dk7_1 (Nat.le_of_ble_eq_true rfl) (Nat.le_of_ble_eq_true rfl) ?_
  refine W.eq (g2 := F0 m 4 ls []) rfl ?_
  refine lv_aload_n hx hb dk7_4 rfl (lv_at hl 0 rfl) ?_
  refine lv_sipush (v := 1300) hx hb dk7_5 (by decide) ?_
  refine cnax (N' := 1300) 1 C h (zhat_mem (i := 818) (by decide +kernel)) rfl rfl rfl (by decide) (by decide) (by decide) (Nat.le_of_ble_eq_true rfl) (Nat.le_of_ble_eq_true rfl) dk7_8 fun q8 H h => ?_
  refine cfr (ft := (.array .byte)) C hin h hlen rfl rfl (k := 3) (by decide) (zhat_mem (i := 724) (by decide +kernel)) rfl rfl (by decide +kernel) rfl rfl dk7_10 fun f10 H locs e10 hlen h => ?_
  refine lv_aload_n hx hb dk7_13 rfl (lv_at hl 0 rfl) ?_
  refine lv_sipush (v := 1300) hx hb dk7_14 (by decide) ?_
  refine cnax (N' := 1300) 1 C h (zhat_mem (i := 818) (by decide +kernel)) rfl rfl rfl (by decide) (by decide) (by decide) (Nat.le_of_ble_eq_true rfl) (Nat.le_of_ble_eq_true rfl) dk7_17 fun q17 H h => ?_
  refine cfr (ft := (.array .byte)) C hin h hlen rfl rfl (k := 4) (by decide) (zhat_mem (i := 725) (by decide +kernel)) rfl rfl (by decide +kernel) rfl rfl dk7_19 fun f19 H locs e19 hlen h => ?_
  refine lv_aload_n hx hb dk7_22 rfl (lv_at hl 0 rfl) ?_
  refine lv_sipush (v := 1300) hx hb dk7_23 (by decide) ?_
  refine cnax (N' := 1300) 2 C h (zhat_mem (i := 819) (by decide +kernel)) rfl rfl rfl (by decide) (by decide) (by decide) (Nat.le_of_ble_eq_true rfl) (Nat.le_of_ble_eq_true rfl) dk7_26 fun q26 H h => ?_
  refine cfr (ft := (.array .short)) C hin h hlen rfl rfl (k := 5) (by decide) (zhat_mem (i := 726) (by decide +kernel)) rfl rfl (by decide +kernel) rfl rfl dk7_28 fun f28 H locs e28 hlen h => ?_
  refine lv_aload_n hx hb dk7_31 rfl (lv_at hl 0 rfl) ?_
  refine lv_sipush (v := 1300) hx hb dk7_32 (by decide) ?_
  refine cnax (N' := 1300) 1 C h (zhat_mem (i := 818) (by decide +kernel)) rfl rfl rfl (by decide) (by decide) (by decide) (Nat.le_of_ble_eq_true rfl) (Nat.le_of_ble_eq_true rfl) dk7_35 fun q35 H h => ?_
  refine cfr (ft := (.array .byte)) C hin h hlen rfl rfl (k := 6) (by decide) (zhat_mem (i := 727) (by decide +kernel)) rfl rfl (by decide +kernel) rfl rfl dk7_37 fun f37 H locs e37 hlen h => ?_
  refine lv_aload_n hx hb dk7_40 rfl (lv_at hl 0 rfl) ?_
  refine lv_sipush (v := 1300) hx hb dk7_41 (by decide) ?_
  refine cnax (N' := 1300) 0 C h (zhat_mem (i := 114) (by decide +kernel)) rfl rfl rfl (by decide) (by decide) (by decide) (Nat.le_of_ble_eq_true rfl) (Nat.le_of_ble_eq_true rfl) dk7_44 fun q44 H h => ?_
  refine cfr (ft := (.array .int)) C hin h hlen rfl rfl (k := 7) (by decide) (zhat_mem (i := 728) (by decide +kernel)) rfl rfl (by decide +kernel) rfl rfl dk7_46 fun f46 H locs e46 hlen h => ?_
  refine lv_aload_n hx hb dk7_49 rfl (lv_at hl 0 rfl) ?_
  refine lv_sipush (v := 1300) hx hb dk7_50 (by decide) ?_
  refine cnax (N' := 1300) 3 C h (zhat_mem (i := 820) (by decide +kernel)) rfl rfl rfl (by decide) (by decide) (by decide) (Nat.le_of_ble_eq_true rfl) (Nat.le_of_ble_eq_true rfl) dk7_53 fun q53 H h => ?_
  refine cfr (ft := (.array .boolean)) C hin h hlen rfl rfl (k := 8) (by decide) (zhat_mem (i := 729) (by decide +kernel)) rfl rfl (by decide +kernel) rfl rfl dk7_55 fun f55 H locs e55 hlen h => ?_
  refine lv_aload_n hx hb dk7_58 rfl (lv_at hl 0 rfl) ?_
  refine lv_sipush (v := 1300) hx hb dk7_59 (by decide) ?_
  refine cnax (N' := 1300) 0 C h (zhat_mem (i := 114) (by decide +kernel)) rfl rfl rfl (by decide) (by decide) (by decide) (Nat.le_of_ble_eq_true rfl) (Nat.le_of_ble_eq_true rfl) dk7_62 fun q62 H h => ?_
  refine cfr (ft := (.array .int)) C hin h hlen rfl rfl (k := 9) (by decide) (zhat_mem (i := 730) (by decide +kernel)) rfl rfl (by decide +kernel) rfl rfl dk7_64 fun f64 H locs e64 hlen h => ?_
  refine lv_aload_n hx hb dk7_67 rfl (lv_at hl 0 rfl) ?_
  refine lv_sipush (v := 1300) hx hb dk7_68 (by decide) ?_
  refine cnax (N' := 1300) 2 C h (zhat_mem (i := 819) (by decide +kernel)) rfl rfl rfl (by decide) (by decide) (by decide) (Nat.le_of_ble_eq_true rfl) (Nat.le_of_ble_eq_true rfl) dk7_71 fun q71 H h => ?_
  refine cfr (ft := (.array .short)) C hin h hlen rfl rfl (k := 10) (by decide) (zhat_mem (i := 731) (by decide +kernel)) rfl rfl (by decide +kernel) rfl rfl dk7_73 fun f73 H locs e73 hlen h => ?_
  refine lv_aload_n hx hb dk7_76 rfl (lv_at hl 0 rfl) ?_
  refine lv_sipush (v := 1300) hx hb dk7_77 (by decide) ?_
  refine cnax (N' := 1300) 2 C h (zhat_mem (i := 819) (by decide +kernel)) rfl rfl rfl (by decide) (by decide) (by decide) (Nat.le_of_ble_eq_true rfl) (Nat.le_of_ble_eq_true rfl) dk7_80 fun q80 H h => ?_
  refine cfr (ft := (.array .short)) C hin h hlen rfl rfl (k := 11) (by decide) (zhat_mem (i := 732) (by decide +kernel)) rfl rfl (by decide +kernel) rfl rfl dk7_82 fun f82 H locs e82 hlen h => ?_
  refine lv_aload_n hx hb dk7_85 rfl (lv_at hl 0 rfl) ?_
  refine lv_sipush (v := 1000) hx hb dk7_86 (by decide) ?_
  refine cnax (N' := 1000) 0 C h (zhat_mem (i := 114) (by decide +kernel)) rfl rfl rfl (by decide) (by decide) (by decide) (Nat.le_of_ble_eq_true rfl) (Nat.le_of_ble_eq_true rfl) dk7_89 fun q89 H h => ?_
  refine cfr (ft := (.array .int)) C hin h hlen rfl rfl (k := 13) (by decide) (zhat_mem (i := 734) (by decide +kernel)) rfl rfl (by decide +kernel) rfl rfl dk7_91 fun f91 H locs e91 hlen h => ?_
  refine lv_aload_n hx hb dk7_94 rfl (lv_at hl 0 rfl) ?_
  refine lv_iconst (v := 1) hx hb dk7_95 (by decide) ?_
  refine cfi (ft := .int) C h hlen rfl (k := 14) (by decide) (zhat_mem (i := 735) (by decide +kernel)) rfl rfl (by decide +kernel) rfl rfl dk7_96 fun f96 H locs e96 hlen h => ?_
  refine lv_aload_n hx hb dk7_99 rfl (lv_at hl 0 rfl) ?_
  refine lv_bipush (v := 48) hx hb dk7_100 (by decide) ?_
  refine cnax (N' := 48) 0 C h (zhat_mem (i := 114) (by decide +kernel)) rfl rfl rfl (by decide) (by decide) (by decide) (Nat.le_of_ble_eq_true rfl) (Nat.le_of_ble_eq_true rfl) dk7_102 fun q102 H h => ?_
  refine cfr (ft := (.array .int)) C hin h hlen rfl rfl (k := 15) (by decide) (zhat_mem (i := 736) (by decide +kernel)) rfl rfl (by decide +kernel) rfl rfl dk7_104 fun f104 H locs e104 hlen h => ?_
  refine lv_aload_n hx hb dk7_107 rfl (lv_at hl 0 rfl) ?_
  refine lv_bipush (v := 48) hx hb dk7_108 (by decide) ?_
  refine cnax (N' := 48) 0 C h (zhat_mem (i := 114) (by decide +kernel)) rfl rfl rfl (by decide) (by decide) (by decide) (Nat.le_of_ble_eq_true rfl) (Nat.le_of_ble_eq_true rfl) dk7_110 fun q110 H h => ?_
  refine cfr (ft := (.array .int)) C hin h hlen rfl rfl (k := 16) (by decide) (zhat_mem (i := 737) (by decide +kernel)) rfl rfl (by decide +kernel) rfl rfl dk7_112 fun f112 H locs e112 hlen h => ?_
  refine lv_aload_n hx hb dk7_115 rfl (lv_at hl 0 rfl) ?_
  refine lv_bipush (v := 48) hx hb dk7_116 (by decide) ?_
  refine cnax (N' := 48) 3 C h (zhat_mem (i := 820) (by decide +kernel)) rfl rfl rfl (by decide) (by decide) (by decide) (Nat.le_of_ble_eq_true rfl) (Nat.le_of_ble_eq_true rfl) dk7_118 fun q118 H h => ?_
  refine cfr (ft := (.array .boolean)) C hin h hlen rfl rfl (k := 17) (by decide) (zhat_mem (i := 738) (by decide +kernel)) rfl rfl (by decide +kernel) rfl rfl dk7_120 fun f120 H locs e120 hlen h => ?_
  refine lv_aload_n hx hb dk7_123 rfl (lv_at hl 0 rfl) ?_
  refine lv_bipush (v := 48) hx hb dk7_124 (by decide) ?_
  refine cnax (N' := 48) 0 C h (zhat_mem (i := 114) (by decide +kernel)) rfl rfl rfl (by decide) (by decide) (by decide) (Nat.le_of_ble_eq_true rfl) (Nat.le_of_ble_eq_true rfl) dk7_126 fun q126 H h => ?_
  refine cfr (ft := (.array .int)) C hin h hlen rfl rfl (k := 18) (by decide) (zhat_mem (i := 739) (by decide +kernel)) rfl rfl (by decide +kernel) rfl rfl dk7_128 fun f128 H locs e128 hlen h => ?_
  refine lv_aload_n hx hb dk7_131 rfl (lv_at hl 0 rfl) ?_
  refine lv_bipush (v := 6) hx hb dk7_132 (by decide) ?_
  refine cnax (N' := 6) 0 C h (zhat_mem (i := 114) (by decide +kernel)) rfl rfl rfl (by decide) (by decide) (by decide) (Nat.le_of_ble_eq_true rfl) (Nat.le_of_ble_eq_true rfl) dk7_134 fun q134 H h => ?_
  refine cfr (ft := (.array .int)) C hin h hlen rfl rfl (k := 26) (by decide) (zhat_mem (i := 747) (by decide +kernel)) rfl rfl (by decide +kernel) rfl rfl dk7_136 fun f136 H locs e136 hlen h => ?_
  refine lv_aload_n hx hb dk7_139 rfl (lv_at hl 0 rfl) ?_
  refine lv_bipush (v := 6) hx hb dk7_140 (by decide) ?_
  refine cnax (N' := 6) 0 C h (zhat_mem (i := 114) (by decide +kernel)) rfl rfl rfl (by decide) (by decide) (by decide) (Nat.le_of_ble_eq_true rfl) (Nat.le_of_ble_eq_true rfl) dk7_142 fun q142 H h => ?_
  refine cfr (ft := (.array .int)) C hin h hlen rfl rfl (k := 27) (by decide) (zhat_mem (i := 748) (by decide +kernel)) rfl rfl (by decide +kernel) rfl rfl dk7_144 fun f144 H locs e144 hlen h => ?_
  refine lv_aload_n hx hb dk7_147 rfl (lv_at hl 0 rfl) ?_
  refine lv_iconst (v := 4) hx hb dk7_148 (by decide) ?_
  refine cnax (N' := 4) 0 C h (zhat_mem (i := 114) (by decide +kernel)) rfl rfl rfl (by decide) (by decide) (by decide) (Nat.le_of_ble_eq_true rfl) (Nat.le_of_ble_eq_true rfl) dk7_149 fun q149 H h => ?_
  refine cfr (ft := (.array .int)) C hin h hlen rfl rfl (k := 28) (by decide) (zhat_mem (i := 749) (by decide +kernel)) rfl rfl (by decide +kernel) rfl rfl dk7_151 fun f151 H locs e151 hlen h => ?_
  refine lv_aload_n hx hb dk7_154 rfl (lv_at hl 0 rfl) ?_
  refine lv_sipush (v := 160) hx hb dk7_155 (by decide) ?_
  refine cnax (N' := 160) 1 C h (zhat_mem (i := 818) (by decide +kernel)) rfl rfl rfl (by decide) (by decide) (by decide) (Nat.le_of_ble_eq_true rfl) (Nat.le_of_ble_eq_true rfl) dk7_158 fun q158 H h => ?_
  refine cfr (ft := (.array .byte)) C hin h hlen rfl rfl (k := 31) (by decide) (zhat_mem (i := 752) (by decide +kernel)) rfl rfl (by decide +kernel) rfl rfl dk7_160 fun f160 H locs e160 hlen h => ?_
  subst e10
  subst e19
  subst e28
  subst e37
  subst e46
  subst e55
  subst e64
  subst e73
  subst e82
  subst e91
  subst e96
  subst e104
  subst e112
  subst e120
  subst e128
  subst e136
  subst e144
  subst e151
  subst e160
  refine lv_iconst (v := 0) hx hb dk7_163 (by decide) ?_
  refine lv_istore_n (i := 1) hx hb dk7_164 rfl hl (by decide) rfl fun ls2 hl2 => ?_
  have hl2 : lv_has ls2 2 [(1, .int (nI 0)), (0, .ref h0)] := hl2
  have h : cSt D (va_A [(h0, .inr (7, fk7))] s.heap.size) s (cmod ty h0 q8 q17 q26 q35 q44 q53 q62 q71 q80 q89 q102 q110 q118 q126 q134 q142 q149 q158 (cmf 0)) H locs := h
  refine cmod_loop C (fun H locs ls h => ?_) 48 0 H locs ls2 rfl h (lv_sub hl2 [1, 0] rfl)
  exact W.vret hx hb BB.returns (fun t ht hW => ⟨⟨_, rfl, ⟨q8, q17, q26, q35, q44, q53, q62, q71, q80, q89, q102, q110, q118, q126, q134, q142, q149, q158, rfl⟩, by rw [ht]; exact h.1, h.2.1⟩, h.2.2.F ht⟩) h.2.2.2.2 dk7_184
