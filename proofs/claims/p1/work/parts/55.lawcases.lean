/-! The law's sixteen cases. Printed by lawgen.py. -/
section LOPS
variable {p : Program} {l : Launch} {e : Env} {s : State} {m0 : MethodId} {args : Array Value} {below : List Frame} {meth : Method} {c : Code} {D : va_G} {ty : Nat → ClassId} {A : Nat → Prop} {Q : State → Prop} {cL : ClassId} {oa X M b L j : Nat} {xs : Nat → Int32} {ad : zA} {t t2 : zT} {H : Heap} {locs : List Loc} {cells slots : Nat} {ls : Array Slot} {f : Nat → Int64}
set_option maxRecDepth 100000 in
theorem lop0 (C : lCx p l s m0 args c D ty A code 7) (hr : meth.sig.returnType = ret) (hn : lNn s) (hKL : va_K D zcl [(cL, .long)] s) (hAo : A oa) (hX : va_X b L xs s s.heap) (hbl : b < s.heap.size) (hbA : ¬ A b) (hL : L ≤ 2048) (hj : j + 3 < L) (h : lSt D ty A s cL oa X M ad t H locs f) (hl : lv_has ls 7 [(0, .ref b), (1, .ref X), (2, .ref M), (3, .ref oa), (4, .int (nI j))]) (hop : lOpA 0 104 false [.inl (xs (j + 1))] t t2) (hc : cells + (t2.2 - t.2) + 1 ≤ 600002) (hs : slots + 16 * (t2.2 - t.2) + 6 ≤ 7302232)
    (kk : ∀ (ad' : zA) (H' : Heap) (locs' : List Loc) (f' : Nat → Int64) (ls' : Array Slot), lSt D ty A s cL oa X M ad' t2 H' locs' f' → lv_has ls' 7 [(0, .ref b), (1, .ref X), (2, .ref M), (3, .ref oa), (4, .int (nI j))] → W p l e room_1 s m0 args below meth c H' locs' (cells + (t2.2 - t.2) + 1) (slots + 16 * (t2.2 - t.2) + 6) Q (F0 m0 774 ls' [])) : W p l e room_1 s m0 args below meth c H locs cells slots Q (F0 m0 116 ls []) := by
  have hx := C.1.1
  have hb := C.1.2.1
  obtain ⟨N1, N2, o, t1, r, z1, ho, z2, hcode, hval⟩ := hop
  have m1 := zrun_md _ _ _ _ _ z1
  have m2 := zrun_md _ _ _ _ _ z2
  have m1 : t.2 ≤ t1.2 := m1
  have m2 : t1.2 ≤ t2.2 := m2
  have hzt : zth o ≤ 1 := by cases o <;> simp [zth]
  refine lv_aload_n hx hb ld_116 rfl (lv_at hl 1 rfl) ?_
  refine lv_aload_n hx hb ld_117 rfl (lv_at hl 0 rfl) ?_
  refine lv_iload hx hb ld_118 (lv_at hl 4 rfl) ?_
  refine lv_iconst (v := nI 1) hx hb ld_120 (by decide) ?_
  refine lsld C hX hbl hbA h.1.2.2 (by omega) hL ld_121 ld_122 ?_
  refine lv_aload_n hx hb ld_123 rfl (lv_at hl 3 rfl) ?_
  have ho2 : (∃ x, o = .inl (some (.inl x))) ∨ o = .inr 1 ∨ o = .inr 2 := ho.elim Or.inl (fun q => q.elim (fun q => Or.inr (Or.inl q)) (fun q => q.elim (fun q => Or.inr (Or.inr q)) (fun q => absurd q.1 (by decide))))
  refine lcH (n := 40) (as := [.inl (xs (j + 1))]) (rest := []) (o := o) (t1 := t1) C hn hKL hAo h (lh0 (N := N1) (sz := H.size) C.2.2.2.2 z1 ho2 m1) rfl rfl (by show zFr 0 + 1 + 1 ≤ room_1.frames; decide +kernel) (by show 8 + (4 + 11) + (8 + (zlocs 0 + 11) + zLo 0) ≤ room_1.locals; decide +kernel) (List.mem_filter.mpr ⟨List.mem_of_getElem? lhw0, rfl⟩) (zhas_mem (by decide +kernel)) (zhas_mem (by decide +kernel)) (zhas_mem (by decide +kernel)) (by decide) (k := 3) (by decide +kernel) rfl hl.1 (Nat.zero_le _) ld_124 (by show cells + _ ≤ 600002; omega) (by show slots + _ ≤ 7302232; omega) fun ad1 H1 locs1 f1 h1 hf1 => ?_
  refine lv_istore hx hb ld_127 hl (by decide) rfl fun ls hl => ?_
  have hl : lv_has ls 7 [(5, .int (lcode o)), (0, .ref b), (1, .ref X), (2, .ref M), (3, .ref oa), (4, .int (nI j))] := hl
  replace hl := lv_sub hl (l' := [(0, .ref b), (1, .ref X), (2, .ref M), (3, .ref oa), (4, .int (nI j)), (5, .int (lcode o))]) [1, 2, 3, 4, 5, 0] rfl
  refine lv_aload_n hx hb ld_129 rfl (lv_at hl 2 rfl) ?_
  refine lv_aload_n hx hb ld_130 rfl (lv_at hl 0 rfl) ?_
  refine lv_iload hx hb ld_131 (lv_at hl 4 rfl) ?_
  refine lv_iconst (v := nI 1) hx hb ld_133 (by decide) ?_
  refine lsld C hX hbl hbA h1.1.2.2 (by omega) hL ld_134 ld_135 ?_
  refine lcZ (N := N2) (n := 45) (m' := 104) (k0 := 16) (as' := [.inl (xs (j + 1))]) (rest := []) C h1 (Or.inr ⟨rfl, rfl⟩) (by decide) (zhas_mem (by decide +kernel)) (by decide +kernel) (by decide +kernel) (by show 2 = znar 104; decide +kernel) (fun v hv => by simp only [List.mem_cons, List.not_mem_nil, or_false] at hv; rcases hv with rfl <;> rfl) z2 (by decide +kernel) (by decide +kernel) hl.1 (Nat.zero_le _) ld_136 (by show cells + _ + _ ≤ 600002; omega) (by show slots + _ + _ ≤ 7302232; omega) fun ad2 H2 locs2 h2 => ?_
  refine lv_istore hx hb ld_139 hl (by decide) rfl fun ls hl => ?_
  have hl : lv_has ls 7 [(6, .int r), (0, .ref b), (1, .ref X), (2, .ref M), (3, .ref oa), (4, .int (nI j)), (5, .int (lcode o))] := hl
  replace hl := lv_sub hl (l' := [(0, .ref b), (1, .ref X), (2, .ref M), (3, .ref oa), (4, .int (nI j)), (5, .int (lcode o)), (6, .int r)]) [1, 2, 3, 4, 5, 6, 0] rfl
  refine lv_aload_n hx hb ld_141 rfl (lv_at hl 2 rfl) ?_
  refine lcZ (N := 3) (n := 46) (m' := 75) (k0 := 16) (as' := []) (rest := []) C h2 (Or.inr ⟨rfl, rfl⟩) (by decide) (zhas_mem (by decide +kernel)) (by decide +kernel) (by decide +kernel) (by decide +kernel) (fun v hv => by cases hv) (lthrown t2) (by decide +kernel) (by decide +kernel) hl.1 (Nat.zero_le _) ld_142 (by show cells + _ + _ + _ ≤ 600002; omega) (by show slots + _ + _ + _ ≤ 7302232; omega) fun ad3 H3 locs3 h3 => ?_
  rw [hcode]
  refine lv_iload hx hb ld_145 (lv_at hl 5 rfl) ?_
  refine lv_icmp_eq (tgt := 152) hx hb ld_147 (by decide) (fun _ => ?_) (fun hne => absurd rfl hne)
  refine W.widen (k := cells + (t2.2 - t.2) + 1) (n := slots + 16 * (t2.2 - t.2) + 6) (by omega) (by omega) ?_
  have hend : ∀ (ad' : zA) (H' : Heap) (locs' : List Loc) (f' : Nat → Int64), lSt D ty A s cL oa X M ad' t2 H' locs' f' → W p l e room_1 s m0 args below meth c H' locs' (cells + (t2.2 - t.2) + 1) (slots + 16 * (t2.2 - t.2) + 6) Q (F0 m0 774 ls []) := fun ad' H' locs' f' h' => kk ad' H' locs' f' ls h' (lv_sub hl [0, 1, 2, 3, 4] rfl)
  refine lv_iload hx hb ld_152 (lv_at hl 5 rfl) ?_
  have hgo : W p l e room_1 s m0 args below meth c H3 locs3 (cells + (t2.2 - t.2) + 1) (slots + 16 * (t2.2 - t.2) + 6) Q (F0 m0 169 ls []) := lv_goto (tgt := 774) hx hb ld_169 (by decide) (hend ad3 H3 locs3 f1 h3)
  refine lv_if_ne (tgt := 169) hx hb ld_154 (by decide) (fun _ => hgo) (fun h0 => ?_)
  have hox : o = .inl (some (.inl r)) := by
    rcases ho2 with ⟨x, rfl⟩ | rfl | rfl
    · rw [hval x rfl]
    · exact absurd h0 (by decide)
    · exact absurd h0 (by decide)
  refine lv_aload_n hx hb ld_157 rfl (lv_at hl 3 rfl) ?_
  refine lv_iconst (v := 0) hx hb ld_158 (by decide) ?_
  refine va_lald hx hb hKL h3.2.1 0 0 rfl rfl (vp_in_nI (n := 0) (by decide) (by decide)) ld_159 ?_
  rw [show f1 (0 : Int32).toNatClampNeg = r.toInt64 from hf1 r hox]
  refine lv_iload hx hb ld_160 (lv_at hl 6 rfl) ?_
  refine lv_i2l hx hb ld_162 rfl ?_
  refine W.lcmp hx hb ld_163 ?_
  rw [show lg_cmp r.toInt64 r.toInt64 = 0 by simp [lg_cmp]]
  exact lv_if_eq (tgt := 169) hx hb ld_164 (by decide) (fun _ => hgo) (fun hne => absurd rfl hne)
set_option maxRecDepth 100000 in
theorem lop1 (C : lCx p l s m0 args c D ty A code 7) (hr : meth.sig.returnType = ret) (hn : lNn s) (hKL : va_K D zcl [(cL, .long)] s) (hAo : A oa) (hX : va_X b L xs s s.heap) (hbl : b < s.heap.size) (hbA : ¬ A b) (hL : L ≤ 2048) (hj : j + 3 < L) (h : lSt D ty A s cL oa X M ad t H locs f) (hl : lv_has ls 7 [(0, .ref b), (1, .ref X), (2, .ref M), (3, .ref oa), (4, .int (nI j))]) (hop : lOpA 1 106 true [.inl (xs (j + 1)), .inl (xs (j + 2))] t t2) (hc : cells + (t2.2 - t.2) + 1 ≤ 600002) (hs : slots + 16 * (t2.2 - t.2) + 6 ≤ 7302232)
    (kk : ∀ (ad' : zA) (H' : Heap) (locs' : List Loc) (f' : Nat → Int64) (ls' : Array Slot), lSt D ty A s cL oa X M ad' t2 H' locs' f' → lv_has ls' 7 [(0, .ref b), (1, .ref X), (2, .ref M), (3, .ref oa), (4, .int (nI j))] → W p l e room_1 s m0 args below meth c H' locs' (cells + (t2.2 - t.2) + 1) (slots + 16 * (t2.2 - t.2) + 6) Q (F0 m0 774 ls' [])) : W p l e room_1 s m0 args below meth c H locs cells slots Q (F0 m0 172 ls []) := by
  have hx := C.1.1
  have hb := C.1.2.1
  obtain ⟨N1, N2, o, t1, r, z1, ho, z2, hcode, hval⟩ := hop
  have m1 := zrun_md _ _ _ _ _ z1
  have m2 := zrun_md _ _ _ _ _ z2
  have m1 : t.2 ≤ t1.2 := m1
  have m2 : t1.2 ≤ t2.2 := m2
  have hzt : zth o ≤ 1 := by cases o <;> simp [zth]
  refine lv_aload_n hx hb ld_172 rfl (lv_at hl 1 rfl) ?_
  refine lv_aload_n hx hb ld_173 rfl (lv_at hl 0 rfl) ?_
  refine lv_iload hx hb ld_174 (lv_at hl 4 rfl) ?_
  refine lv_iconst (v := nI 1) hx hb ld_176 (by decide) ?_
  refine lsld C hX hbl hbA h.1.2.2 (by omega) hL ld_177 ld_178 ?_
  refine lv_aload_n hx hb ld_179 rfl (lv_at hl 0 rfl) ?_
  refine lv_iload hx hb ld_180 (lv_at hl 4 rfl) ?_
  refine lv_iconst (v := nI 2) hx hb ld_182 (by decide) ?_
  refine lsld C hX hbl hbA h.1.2.2 (by omega) hL ld_183 ld_184 ?_
  refine lv_aload_n hx hb ld_185 rfl (lv_at hl 3 rfl) ?_
  have ho2 : (∃ x, o = .inl (some (.inl x))) ∨ o = .inr 1 ∨ o = .inr 2 ∨ o = .inr 3 := ho.elim Or.inl (fun q => q.elim (fun q => Or.inr (Or.inl q)) (fun q => q.elim (fun q => Or.inr (Or.inr (Or.inl q))) (fun q => Or.inr (Or.inr (Or.inr q.2)))))
  refine lcH (n := 50) (as := [.inl (xs (j + 1)), .inl (xs (j + 2))]) (rest := []) (o := o) (t1 := t1) C hn hKL hAo h (lh1 (N := N1) (sz := H.size) C.2.2.2.2 z1 ho2 m1) rfl rfl (by show zFr 1 + 1 + 1 ≤ room_1.frames; decide +kernel) (by show 8 + (5 + 11) + (8 + (zlocs 1 + 11) + zLo 1) ≤ room_1.locals; decide +kernel) (List.mem_filter.mpr ⟨List.mem_of_getElem? lhw1, rfl⟩) (zhas_mem (by decide +kernel)) (zhas_mem (by decide +kernel)) (zhas_mem (by decide +kernel)) (by decide) (k := 4) (by decide +kernel) rfl hl.1 (Nat.zero_le _) ld_186 (by show cells + _ ≤ 600002; omega) (by show slots + _ ≤ 7302232; omega) fun ad1 H1 locs1 f1 h1 hf1 => ?_
  refine lv_istore hx hb ld_189 hl (by decide) rfl fun ls hl => ?_
  have hl : lv_has ls 7 [(5, .int (lcode o)), (0, .ref b), (1, .ref X), (2, .ref M), (3, .ref oa), (4, .int (nI j))] := hl
  replace hl := lv_sub hl (l' := [(0, .ref b), (1, .ref X), (2, .ref M), (3, .ref oa), (4, .int (nI j)), (5, .int (lcode o))]) [1, 2, 3, 4, 5, 0] rfl
  refine lv_aload_n hx hb ld_191 rfl (lv_at hl 2 rfl) ?_
  refine lv_aload_n hx hb ld_192 rfl (lv_at hl 0 rfl) ?_
  refine lv_iload hx hb ld_193 (lv_at hl 4 rfl) ?_
  refine lv_iconst (v := nI 1) hx hb ld_195 (by decide) ?_
  refine lsld C hX hbl hbA h1.1.2.2 (by omega) hL ld_196 ld_197 ?_
  refine lv_aload_n hx hb ld_198 rfl (lv_at hl 0 rfl) ?_
  refine lv_iload hx hb ld_199 (lv_at hl 4 rfl) ?_
  refine lv_iconst (v := nI 2) hx hb ld_201 (by decide) ?_
  refine lsld C hX hbl hbA h1.1.2.2 (by omega) hL ld_202 ld_203 ?_
  refine lcZ (N := N2) (n := 53) (m' := 106) (k0 := 16) (as' := [.inl (xs (j + 1)), .inl (xs (j + 2))]) (rest := []) C h1 (Or.inr ⟨rfl, rfl⟩) (by decide) (zhas_mem (by decide +kernel)) (by decide +kernel) (by decide +kernel) (by show 3 = znar 106; decide +kernel) (fun v hv => by simp only [List.mem_cons, List.not_mem_nil, or_false] at hv; rcases hv with rfl | rfl <;> rfl) z2 (by decide +kernel) (by decide +kernel) hl.1 (Nat.zero_le _) ld_204 (by show cells + _ + _ ≤ 600002; omega) (by show slots + _ + _ ≤ 7302232; omega) fun ad2 H2 locs2 h2 => ?_
  refine lv_istore hx hb ld_207 hl (by decide) rfl fun ls hl => ?_
  have hl : lv_has ls 7 [(6, .int r), (0, .ref b), (1, .ref X), (2, .ref M), (3, .ref oa), (4, .int (nI j)), (5, .int (lcode o))] := hl
  replace hl := lv_sub hl (l' := [(0, .ref b), (1, .ref X), (2, .ref M), (3, .ref oa), (4, .int (nI j)), (5, .int (lcode o)), (6, .int r)]) [1, 2, 3, 4, 5, 6, 0] rfl
  refine lv_aload_n hx hb ld_209 rfl (lv_at hl 2 rfl) ?_
  refine lcZ (N := 3) (n := 46) (m' := 75) (k0 := 16) (as' := []) (rest := []) C h2 (Or.inr ⟨rfl, rfl⟩) (by decide) (zhas_mem (by decide +kernel)) (by decide +kernel) (by decide +kernel) (by decide +kernel) (fun v hv => by cases hv) (lthrown t2) (by decide +kernel) (by decide +kernel) hl.1 (Nat.zero_le _) ld_210 (by show cells + _ + _ + _ ≤ 600002; omega) (by show slots + _ + _ + _ ≤ 7302232; omega) fun ad3 H3 locs3 h3 => ?_
  rw [hcode]
  refine lv_iload hx hb ld_213 (lv_at hl 5 rfl) ?_
  refine lv_icmp_eq (tgt := 220) hx hb ld_215 (by decide) (fun _ => ?_) (fun hne => absurd rfl hne)
  refine W.widen (k := cells + (t2.2 - t.2) + 1) (n := slots + 16 * (t2.2 - t.2) + 6) (by omega) (by omega) ?_
  have hend : ∀ (ad' : zA) (H' : Heap) (locs' : List Loc) (f' : Nat → Int64), lSt D ty A s cL oa X M ad' t2 H' locs' f' → W p l e room_1 s m0 args below meth c H' locs' (cells + (t2.2 - t.2) + 1) (slots + 16 * (t2.2 - t.2) + 6) Q (F0 m0 774 ls []) := fun ad' H' locs' f' h' => kk ad' H' locs' f' ls h' (lv_sub hl [0, 1, 2, 3, 4] rfl)
  refine lv_iload hx hb ld_220 (lv_at hl 5 rfl) ?_
  have hgo : W p l e room_1 s m0 args below meth c H3 locs3 (cells + (t2.2 - t.2) + 1) (slots + 16 * (t2.2 - t.2) + 6) Q (F0 m0 237 ls []) := lv_goto (tgt := 774) hx hb ld_237 (by decide) (hend ad3 H3 locs3 f1 h3)
  refine lv_if_ne (tgt := 237) hx hb ld_222 (by decide) (fun _ => hgo) (fun h0 => ?_)
  have hox : o = .inl (some (.inl r)) := by
    rcases ho2 with ⟨x, rfl⟩ | rfl | rfl | rfl
    · rw [hval x rfl]
    · exact absurd h0 (by decide)
    · exact absurd h0 (by decide)
    · exact absurd h0 (by decide)
  refine lv_aload_n hx hb ld_225 rfl (lv_at hl 3 rfl) ?_
  refine lv_iconst (v := 0) hx hb ld_226 (by decide) ?_
  refine va_lald hx hb hKL h3.2.1 0 0 rfl rfl (vp_in_nI (n := 0) (by decide) (by decide)) ld_227 ?_
  rw [show f1 (0 : Int32).toNatClampNeg = r.toInt64 from hf1 r hox]
  refine lv_iload hx hb ld_228 (lv_at hl 6 rfl) ?_
  refine lv_i2l hx hb ld_230 rfl ?_
  refine W.lcmp hx hb ld_231 ?_
  rw [show lg_cmp r.toInt64 r.toInt64 = 0 by simp [lg_cmp]]
  exact lv_if_eq (tgt := 237) hx hb ld_232 (by decide) (fun _ => hgo) (fun hne => absurd rfl hne)
set_option maxRecDepth 100000 in
theorem lop2 (C : lCx p l s m0 args c D ty A code 7) (hr : meth.sig.returnType = ret) (hn : lNn s) (hKL : va_K D zcl [(cL, .long)] s) (hAo : A oa) (hX : va_X b L xs s s.heap) (hbl : b < s.heap.size) (hbA : ¬ A b) (hL : L ≤ 2048) (hj : j + 3 < L) (h : lSt D ty A s cL oa X M ad t H locs f) (hl : lv_has ls 7 [(0, .ref b), (1, .ref X), (2, .ref M), (3, .ref oa), (4, .int (nI j))]) (hop : lOpA 2 107 false [.inl (xs (j + 1)), .inl (xs (j + 2)), .inl (xs (j + 3))] t t2) (hc : cells + (t2.2 - t.2) + 1 ≤ 600002) (hs : slots + 16 * (t2.2 - t.2) + 6 ≤ 7302232)
    (kk : ∀ (ad' : zA) (H' : Heap) (locs' : List Loc) (f' : Nat → Int64) (ls' : Array Slot), lSt D ty A s cL oa X M ad' t2 H' locs' f' → lv_has ls' 7 [(0, .ref b), (1, .ref X), (2, .ref M), (3, .ref oa), (4, .int (nI j))] → W p l e room_1 s m0 args below meth c H' locs' (cells + (t2.2 - t.2) + 1) (slots + 16 * (t2.2 - t.2) + 6) Q (F0 m0 774 ls' [])) : W p l e room_1 s m0 args below meth c H locs cells slots Q (F0 m0 240 ls []) := by
  have hx := C.1.1
  have hb := C.1.2.1
  obtain ⟨N1, N2, o, t1, r, z1, ho, z2, hcode, hval⟩ := hop
  have m1 := zrun_md _ _ _ _ _ z1
  have m2 := zrun_md _ _ _ _ _ z2
  have m1 : t.2 ≤ t1.2 := m1
  have m2 : t1.2 ≤ t2.2 := m2
  have hzt : zth o ≤ 1 := by cases o <;> simp [zth]
  refine lv_aload_n hx hb ld_240 rfl (lv_at hl 1 rfl) ?_
  refine lv_aload_n hx hb ld_241 rfl (lv_at hl 0 rfl) ?_
  refine lv_iload hx hb ld_242 (lv_at hl 4 rfl) ?_
  refine lv_iconst (v := nI 1) hx hb ld_244 (by decide) ?_
  refine lsld C hX hbl hbA h.1.2.2 (by omega) hL ld_245 ld_246 ?_
  refine lv_aload_n hx hb ld_247 rfl (lv_at hl 0 rfl) ?_
  refine lv_iload hx hb ld_248 (lv_at hl 4 rfl) ?_
  refine lv_iconst (v := nI 2) hx hb ld_250 (by decide) ?_
  refine lsld C hX hbl hbA h.1.2.2 (by omega) hL ld_251 ld_252 ?_
  refine lv_aload_n hx hb ld_253 rfl (lv_at hl 0 rfl) ?_
  refine lv_iload hx hb ld_254 (lv_at hl 4 rfl) ?_
  refine lv_iconst (v := nI 3) hx hb ld_256 (by decide) ?_
  refine lsld C hX hbl hbA h.1.2.2 (by omega) hL ld_257 ld_258 ?_
  refine lv_aload_n hx hb ld_259 rfl (lv_at hl 3 rfl) ?_
  have ho2 : (∃ x, o = .inl (some (.inl x))) ∨ o = .inr 1 ∨ o = .inr 2 := ho.elim Or.inl (fun q => q.elim (fun q => Or.inr (Or.inl q)) (fun q => q.elim (fun q => Or.inr (Or.inr q)) (fun q => absurd q.1 (by decide))))
  refine lcH (n := 54) (as := [.inl (xs (j + 1)), .inl (xs (j + 2)), .inl (xs (j + 3))]) (rest := []) (o := o) (t1 := t1) C hn hKL hAo h (lh2 (N := N1) (sz := H.size) C.2.2.2.2 z1 ho2 m1) rfl rfl (by show zFr 2 + 1 + 1 ≤ room_1.frames; decide +kernel) (by show 8 + (6 + 11) + (8 + (zlocs 2 + 11) + zLo 2) ≤ room_1.locals; decide +kernel) (List.mem_filter.mpr ⟨List.mem_of_getElem? lhw2, rfl⟩) (zhas_mem (by decide +kernel)) (zhas_mem (by decide +kernel)) (zhas_mem (by decide +kernel)) (by decide) (k := 5) (by decide +kernel) rfl hl.1 (Nat.zero_le _) ld_260 (by show cells + _ ≤ 600002; omega) (by show slots + _ ≤ 7302232; omega) fun ad1 H1 locs1 f1 h1 hf1 => ?_
  refine lv_istore hx hb ld_263 hl (by decide) rfl fun ls hl => ?_
  have hl : lv_has ls 7 [(5, .int (lcode o)), (0, .ref b), (1, .ref X), (2, .ref M), (3, .ref oa), (4, .int (nI j))] := hl
  replace hl := lv_sub hl (l' := [(0, .ref b), (1, .ref X), (2, .ref M), (3, .ref oa), (4, .int (nI j)), (5, .int (lcode o))]) [1, 2, 3, 4, 5, 0] rfl
  refine lv_aload_n hx hb ld_265 rfl (lv_at hl 2 rfl) ?_
  refine lv_aload_n hx hb ld_266 rfl (lv_at hl 0 rfl) ?_
  refine lv_iload hx hb ld_267 (lv_at hl 4 rfl) ?_
  refine lv_iconst (v := nI 1) hx hb ld_269 (by decide) ?_
  refine lsld C hX hbl hbA h1.1.2.2 (by omega) hL ld_270 ld_271 ?_
  refine lv_aload_n hx hb ld_272 rfl (lv_at hl 0 rfl) ?_
  refine lv_iload hx hb ld_273 (lv_at hl 4 rfl) ?_
  refine lv_iconst (v := nI 2) hx hb ld_275 (by decide) ?_
  refine lsld C hX hbl hbA h1.1.2.2 (by omega) hL ld_276 ld_277 ?_
  refine lv_aload_n hx hb ld_278 rfl (lv_at hl 0 rfl) ?_
  refine lv_iload hx hb ld_279 (lv_at hl 4 rfl) ?_
  refine lv_iconst (v := nI 3) hx hb ld_281 (by decide) ?_
  refine lsld C hX hbl hbA h1.1.2.2 (by omega) hL ld_282 ld_283 ?_
  refine lcZ (N := N2) (n := 57) (m' := 107) (k0 := 16) (as' := [.inl (xs (j + 1)), .inl (xs (j + 2)), .inl (xs (j + 3))]) (rest := []) C h1 (Or.inr ⟨rfl, rfl⟩) (by decide) (zhas_mem (by decide +kernel)) (by decide +kernel) (by decide +kernel) (by show 4 = znar 107; decide +kernel) (fun v hv => by simp only [List.mem_cons, List.not_mem_nil, or_false] at hv; rcases hv with rfl | rfl | rfl <;> rfl) z2 (by decide +kernel) (by decide +kernel) hl.1 (Nat.zero_le _) ld_284 (by show cells + _ + _ ≤ 600002; omega) (by show slots + _ + _ ≤ 7302232; omega) fun ad2 H2 locs2 h2 => ?_
  refine lv_istore hx hb ld_287 hl (by decide) rfl fun ls hl => ?_
  have hl : lv_has ls 7 [(6, .int r), (0, .ref b), (1, .ref X), (2, .ref M), (3, .ref oa), (4, .int (nI j)), (5, .int (lcode o))] := hl
  replace hl := lv_sub hl (l' := [(0, .ref b), (1, .ref X), (2, .ref M), (3, .ref oa), (4, .int (nI j)), (5, .int (lcode o)), (6, .int r)]) [1, 2, 3, 4, 5, 6, 0] rfl
  refine lv_aload_n hx hb ld_289 rfl (lv_at hl 2 rfl) ?_
  refine lcZ (N := 3) (n := 46) (m' := 75) (k0 := 16) (as' := []) (rest := []) C h2 (Or.inr ⟨rfl, rfl⟩) (by decide) (zhas_mem (by decide +kernel)) (by decide +kernel) (by decide +kernel) (by decide +kernel) (fun v hv => by cases hv) (lthrown t2) (by decide +kernel) (by decide +kernel) hl.1 (Nat.zero_le _) ld_290 (by show cells + _ + _ + _ ≤ 600002; omega) (by show slots + _ + _ + _ ≤ 7302232; omega) fun ad3 H3 locs3 h3 => ?_
  rw [hcode]
  refine lv_iload hx hb ld_293 (lv_at hl 5 rfl) ?_
  refine lv_icmp_eq (tgt := 300) hx hb ld_295 (by decide) (fun _ => ?_) (fun hne => absurd rfl hne)
  refine W.widen (k := cells + (t2.2 - t.2) + 1) (n := slots + 16 * (t2.2 - t.2) + 6) (by omega) (by omega) ?_
  have hend : ∀ (ad' : zA) (H' : Heap) (locs' : List Loc) (f' : Nat → Int64), lSt D ty A s cL oa X M ad' t2 H' locs' f' → W p l e room_1 s m0 args below meth c H' locs' (cells + (t2.2 - t.2) + 1) (slots + 16 * (t2.2 - t.2) + 6) Q (F0 m0 774 ls []) := fun ad' H' locs' f' h' => kk ad' H' locs' f' ls h' (lv_sub hl [0, 1, 2, 3, 4] rfl)
  refine lv_iload hx hb ld_300 (lv_at hl 5 rfl) ?_
  have hgo : W p l e room_1 s m0 args below meth c H3 locs3 (cells + (t2.2 - t.2) + 1) (slots + 16 * (t2.2 - t.2) + 6) Q (F0 m0 317 ls []) := lv_goto (tgt := 774) hx hb ld_317 (by decide) (hend ad3 H3 locs3 f1 h3)
  refine lv_if_ne (tgt := 317) hx hb ld_302 (by decide) (fun _ => hgo) (fun h0 => ?_)
  have hox : o = .inl (some (.inl r)) := by
    rcases ho2 with ⟨x, rfl⟩ | rfl | rfl
    · rw [hval x rfl]
    · exact absurd h0 (by decide)
    · exact absurd h0 (by decide)
  refine lv_aload_n hx hb ld_305 rfl (lv_at hl 3 rfl) ?_
  refine lv_iconst (v := 0) hx hb ld_306 (by decide) ?_
  refine va_lald hx hb hKL h3.2.1 0 0 rfl rfl (vp_in_nI (n := 0) (by decide) (by decide)) ld_307 ?_
  rw [show f1 (0 : Int32).toNatClampNeg = r.toInt64 from hf1 r hox]
  refine lv_iload hx hb ld_308 (lv_at hl 6 rfl) ?_
  refine lv_i2l hx hb ld_310 rfl ?_
  refine W.lcmp hx hb ld_311 ?_
  rw [show lg_cmp r.toInt64 r.toInt64 = 0 by simp [lg_cmp]]
  exact lv_if_eq (tgt := 317) hx hb ld_312 (by decide) (fun _ => hgo) (fun hne => absurd rfl hne)
set_option maxRecDepth 100000 in
theorem lop3 (C : lCx p l s m0 args c D ty A code 7) (hr : meth.sig.returnType = ret) (hn : lNn s) (hKL : va_K D zcl [(cL, .long)] s) (hAo : A oa) (hX : va_X b L xs s s.heap) (hbl : b < s.heap.size) (hbA : ¬ A b) (hL : L ≤ 2048) (hj : j + 3 < L) (h : lSt D ty A s cL oa X M ad t H locs f) (hl : lv_has ls 7 [(0, .ref b), (1, .ref X), (2, .ref M), (3, .ref oa), (4, .int (nI j))]) (hop : lOpA 3 108 true [.inl (xs (j + 1)), .inl (xs (j + 2))] t t2) (hc : cells + (t2.2 - t.2) + 1 ≤ 600002) (hs : slots + 16 * (t2.2 - t.2) + 6 ≤ 7302232)
    (kk : ∀ (ad' : zA) (H' : Heap) (locs' : List Loc) (f' : Nat → Int64) (ls' : Array Slot), lSt D ty A s cL oa X M ad' t2 H' locs' f' → lv_has ls' 7 [(0, .ref b), (1, .ref X), (2, .ref M), (3, .ref oa), (4, .int (nI j))] → W p l e room_1 s m0 args below meth c H' locs' (cells + (t2.2 - t.2) + 1) (slots + 16 * (t2.2 - t.2) + 6) Q (F0 m0 774 ls' [])) : W p l e room_1 s m0 args below meth c H locs cells slots Q (F0 m0 320 ls []) := by
  have hx := C.1.1
  have hb := C.1.2.1
  obtain ⟨N1, N2, o, t1, r, z1, ho, z2, hcode, hval⟩ := hop
  have m1 := zrun_md _ _ _ _ _ z1
  have m2 := zrun_md _ _ _ _ _ z2
  have m1 : t.2 ≤ t1.2 := m1
  have m2 : t1.2 ≤ t2.2 := m2
  have hzt : zth o ≤ 1 := by cases o <;> simp [zth]
  refine lv_aload_n hx hb ld_320 rfl (lv_at hl 1 rfl) ?_
  refine lv_aload_n hx hb ld_321 rfl (lv_at hl 0 rfl) ?_
  refine lv_iload hx hb ld_322 (lv_at hl 4 rfl) ?_
  refine lv_iconst (v := nI 1) hx hb ld_324 (by decide) ?_
  refine lsld C hX hbl hbA h.1.2.2 (by omega) hL ld_325 ld_326 ?_
  refine lv_aload_n hx hb ld_327 rfl (lv_at hl 0 rfl) ?_
  refine lv_iload hx hb ld_328 (lv_at hl 4 rfl) ?_
  refine lv_iconst (v := nI 2) hx hb ld_330 (by decide) ?_
  refine lsld C hX hbl hbA h.1.2.2 (by omega) hL ld_331 ld_332 ?_
  refine lv_aload_n hx hb ld_333 rfl (lv_at hl 3 rfl) ?_
  have ho2 : (∃ x, o = .inl (some (.inl x))) ∨ o = .inr 1 ∨ o = .inr 2 ∨ o = .inr 3 := ho.elim Or.inl (fun q => q.elim (fun q => Or.inr (Or.inl q)) (fun q => q.elim (fun q => Or.inr (Or.inr (Or.inl q))) (fun q => Or.inr (Or.inr (Or.inr q.2)))))
  refine lcH (n := 58) (as := [.inl (xs (j + 1)), .inl (xs (j + 2))]) (rest := []) (o := o) (t1 := t1) C hn hKL hAo h (lh3 (N := N1) (sz := H.size) C.2.2.2.2 z1 ho2 m1) rfl rfl (by show zFr 3 + 1 + 1 ≤ room_1.frames; decide +kernel) (by show 8 + (5 + 11) + (8 + (zlocs 3 + 11) + zLo 3) ≤ room_1.locals; decide +kernel) (List.mem_filter.mpr ⟨List.mem_of_getElem? lhw3, rfl⟩) (zhas_mem (by decide +kernel)) (zhas_mem (by decide +kernel)) (zhas_mem (by decide +kernel)) (by decide) (k := 4) (by decide +kernel) rfl hl.1 (Nat.zero_le _) ld_334 (by show cells + _ ≤ 600002; omega) (by show slots + _ ≤ 7302232; omega) fun ad1 H1 locs1 f1 h1 hf1 => ?_
  refine lv_istore hx hb ld_337 hl (by decide) rfl fun ls hl => ?_
  have hl : lv_has ls 7 [(5, .int (lcode o)), (0, .ref b), (1, .ref X), (2, .ref M), (3, .ref oa), (4, .int (nI j))] := hl
  replace hl := lv_sub hl (l' := [(0, .ref b), (1, .ref X), (2, .ref M), (3, .ref oa), (4, .int (nI j)), (5, .int (lcode o))]) [1, 2, 3, 4, 5, 0] rfl
  refine lv_aload_n hx hb ld_339 rfl (lv_at hl 2 rfl) ?_
  refine lv_aload_n hx hb ld_340 rfl (lv_at hl 0 rfl) ?_
  refine lv_iload hx hb ld_341 (lv_at hl 4 rfl) ?_
  refine lv_iconst (v := nI 1) hx hb ld_343 (by decide) ?_
  refine lsld C hX hbl hbA h1.1.2.2 (by omega) hL ld_344 ld_345 ?_
  refine lv_aload_n hx hb ld_346 rfl (lv_at hl 0 rfl) ?_
  refine lv_iload hx hb ld_347 (lv_at hl 4 rfl) ?_
  refine lv_iconst (v := nI 2) hx hb ld_349 (by decide) ?_
  refine lsld C hX hbl hbA h1.1.2.2 (by omega) hL ld_350 ld_351 ?_
  refine lcZ (N := N2) (n := 60) (m' := 108) (k0 := 16) (as' := [.inl (xs (j + 1)), .inl (xs (j + 2))]) (rest := []) C h1 (Or.inr ⟨rfl, rfl⟩) (by decide) (zhas_mem (by decide +kernel)) (by decide +kernel) (by decide +kernel) (by show 3 = znar 108; decide +kernel) (fun v hv => by simp only [List.mem_cons, List.not_mem_nil, or_false] at hv; rcases hv with rfl | rfl <;> rfl) z2 (by decide +kernel) (by decide +kernel) hl.1 (Nat.zero_le _) ld_352 (by show cells + _ + _ ≤ 600002; omega) (by show slots + _ + _ ≤ 7302232; omega) fun ad2 H2 locs2 h2 => ?_
  refine lv_istore hx hb ld_355 hl (by decide) rfl fun ls hl => ?_
  have hl : lv_has ls 7 [(6, .int r), (0, .ref b), (1, .ref X), (2, .ref M), (3, .ref oa), (4, .int (nI j)), (5, .int (lcode o))] := hl
  replace hl := lv_sub hl (l' := [(0, .ref b), (1, .ref X), (2, .ref M), (3, .ref oa), (4, .int (nI j)), (5, .int (lcode o)), (6, .int r)]) [1, 2, 3, 4, 5, 6, 0] rfl
  refine lv_aload_n hx hb ld_357 rfl (lv_at hl 2 rfl) ?_
  refine lcZ (N := 3) (n := 46) (m' := 75) (k0 := 16) (as' := []) (rest := []) C h2 (Or.inr ⟨rfl, rfl⟩) (by decide) (zhas_mem (by decide +kernel)) (by decide +kernel) (by decide +kernel) (by decide +kernel) (fun v hv => by cases hv) (lthrown t2) (by decide +kernel) (by decide +kernel) hl.1 (Nat.zero_le _) ld_358 (by show cells + _ + _ + _ ≤ 600002; omega) (by show slots + _ + _ + _ ≤ 7302232; omega) fun ad3 H3 locs3 h3 => ?_
  rw [hcode]
  refine lv_iload hx hb ld_361 (lv_at hl 5 rfl) ?_
  refine lv_icmp_eq (tgt := 368) hx hb ld_363 (by decide) (fun _ => ?_) (fun hne => absurd rfl hne)
  refine W.widen (k := cells + (t2.2 - t.2) + 1) (n := slots + 16 * (t2.2 - t.2) + 6) (by omega) (by omega) ?_
  have hend : ∀ (ad' : zA) (H' : Heap) (locs' : List Loc) (f' : Nat → Int64), lSt D ty A s cL oa X M ad' t2 H' locs' f' → W p l e room_1 s m0 args below meth c H' locs' (cells + (t2.2 - t.2) + 1) (slots + 16 * (t2.2 - t.2) + 6) Q (F0 m0 774 ls []) := fun ad' H' locs' f' h' => kk ad' H' locs' f' ls h' (lv_sub hl [0, 1, 2, 3, 4] rfl)
  refine lv_iload hx hb ld_368 (lv_at hl 5 rfl) ?_
  have hgo : W p l e room_1 s m0 args below meth c H3 locs3 (cells + (t2.2 - t.2) + 1) (slots + 16 * (t2.2 - t.2) + 6) Q (F0 m0 385 ls []) := lv_goto (tgt := 774) hx hb ld_385 (by decide) (hend ad3 H3 locs3 f1 h3)
  refine lv_if_ne (tgt := 385) hx hb ld_370 (by decide) (fun _ => hgo) (fun h0 => ?_)
  have hox : o = .inl (some (.inl r)) := by
    rcases ho2 with ⟨x, rfl⟩ | rfl | rfl | rfl
    · rw [hval x rfl]
    · exact absurd h0 (by decide)
    · exact absurd h0 (by decide)
    · exact absurd h0 (by decide)
  refine lv_aload_n hx hb ld_373 rfl (lv_at hl 3 rfl) ?_
  refine lv_iconst (v := 0) hx hb ld_374 (by decide) ?_
  refine va_lald hx hb hKL h3.2.1 0 0 rfl rfl (vp_in_nI (n := 0) (by decide) (by decide)) ld_375 ?_
  rw [show f1 (0 : Int32).toNatClampNeg = r.toInt64 from hf1 r hox]
  refine lv_iload hx hb ld_376 (lv_at hl 6 rfl) ?_
  refine lv_i2l hx hb ld_378 rfl ?_
  refine W.lcmp hx hb ld_379 ?_
  rw [show lg_cmp r.toInt64 r.toInt64 = 0 by simp [lg_cmp]]
  exact lv_if_eq (tgt := 385) hx hb ld_380 (by decide) (fun _ => hgo) (fun hne => absurd rfl hne)
set_option maxRecDepth 100000 in
theorem lop4 (C : lCx p l s m0 args c D ty A code 7) (hr : meth.sig.returnType = ret) (hn : lNn s) (hKL : va_K D zcl [(cL, .long)] s) (hAo : A oa) (hX : va_X b L xs s s.heap) (hbl : b < s.heap.size) (hbA : ¬ A b) (hL : L ≤ 2048) (hj : j + 3 < L) (h : lSt D ty A s cL oa X M ad t H locs f) (hl : lv_has ls 7 [(0, .ref b), (1, .ref X), (2, .ref M), (3, .ref oa), (4, .int (nI j))]) (hop : lOpA 4 109 false [.inl (xs (j + 1))] t t2) (hc : cells + (t2.2 - t.2) + 1 ≤ 600002) (hs : slots + 16 * (t2.2 - t.2) + 6 ≤ 7302232)
    (kk : ∀ (ad' : zA) (H' : Heap) (locs' : List Loc) (f' : Nat → Int64) (ls' : Array Slot), lSt D ty A s cL oa X M ad' t2 H' locs' f' → lv_has ls' 7 [(0, .ref b), (1, .ref X), (2, .ref M), (3, .ref oa), (4, .int (nI j))] → W p l e room_1 s m0 args below meth c H' locs' (cells + (t2.2 - t.2) + 1) (slots + 16 * (t2.2 - t.2) + 6) Q (F0 m0 774 ls' [])) : W p l e room_1 s m0 args below meth c H locs cells slots Q (F0 m0 388 ls []) := by
  have hx := C.1.1
  have hb := C.1.2.1
  obtain ⟨N1, N2, o, t1, r, z1, ho, z2, hcode, hval⟩ := hop
  have m1 := zrun_md _ _ _ _ _ z1
  have m2 := zrun_md _ _ _ _ _ z2
  have m1 : t.2 ≤ t1.2 := m1
  have m2 : t1.2 ≤ t2.2 := m2
  have hzt : zth o ≤ 1 := by cases o <;> simp [zth]
  refine lv_aload_n hx hb ld_388 rfl (lv_at hl 1 rfl) ?_
  refine lv_aload_n hx hb ld_389 rfl (lv_at hl 0 rfl) ?_
  refine lv_iload hx hb ld_390 (lv_at hl 4 rfl) ?_
  refine lv_iconst (v := nI 1) hx hb ld_392 (by decide) ?_
  refine lsld C hX hbl hbA h.1.2.2 (by omega) hL ld_393 ld_394 ?_
  refine lv_aload_n hx hb ld_395 rfl (lv_at hl 3 rfl) ?_
  have ho2 : (∃ x, o = .inl (some (.inl x))) ∨ o = .inr 1 ∨ o = .inr 2 := ho.elim Or.inl (fun q => q.elim (fun q => Or.inr (Or.inl q)) (fun q => q.elim (fun q => Or.inr (Or.inr q)) (fun q => absurd q.1 (by decide))))
  refine lcH (n := 61) (as := [.inl (xs (j + 1))]) (rest := []) (o := o) (t1 := t1) C hn hKL hAo h (lh4 (N := N1) (sz := H.size) C.2.2.2.2 z1 ho2 m1) rfl rfl (by show zFr 4 + 1 + 1 ≤ room_1.frames; decide +kernel) (by show 8 + (4 + 11) + (8 + (zlocs 4 + 11) + zLo 4) ≤ room_1.locals; decide +kernel) (List.mem_filter.mpr ⟨List.mem_of_getElem? lhw4, rfl⟩) (zhas_mem (by decide +kernel)) (zhas_mem (by decide +kernel)) (zhas_mem (by decide +kernel)) (by decide) (k := 3) (by decide +kernel) rfl hl.1 (Nat.zero_le _) ld_396 (by show cells + _ ≤ 600002; omega) (by show slots + _ ≤ 7302232; omega) fun ad1 H1 locs1 f1 h1 hf1 => ?_
  refine lv_istore hx hb ld_399 hl (by decide) rfl fun ls hl => ?_
  have hl : lv_has ls 7 [(5, .int (lcode o)), (0, .ref b), (1, .ref X), (2, .ref M), (3, .ref oa), (4, .int (nI j))] := hl
  replace hl := lv_sub hl (l' := [(0, .ref b), (1, .ref X), (2, .ref M), (3, .ref oa), (4, .int (nI j)), (5, .int (lcode o))]) [1, 2, 3, 4, 5, 0] rfl
  refine lv_aload_n hx hb ld_401 rfl (lv_at hl 2 rfl) ?_
  refine lv_aload_n hx hb ld_402 rfl (lv_at hl 0 rfl) ?_
  refine lv_iload hx hb ld_403 (lv_at hl 4 rfl) ?_
  refine lv_iconst (v := nI 1) hx hb ld_405 (by decide) ?_
  refine lsld C hX hbl hbA h1.1.2.2 (by omega) hL ld_406 ld_407 ?_
  refine lcZ (N := N2) (n := 63) (m' := 109) (k0 := 16) (as' := [.inl (xs (j + 1))]) (rest := []) C h1 (Or.inr ⟨rfl, rfl⟩) (by decide) (zhas_mem (by decide +kernel)) (by decide +kernel) (by decide +kernel) (by show 2 = znar 109; decide +kernel) (fun v hv => by simp only [List.mem_cons, List.not_mem_nil, or_false] at hv; rcases hv with rfl <;> rfl) z2 (by decide +kernel) (by decide +kernel) hl.1 (Nat.zero_le _) ld_408 (by show cells + _ + _ ≤ 600002; omega) (by show slots + _ + _ ≤ 7302232; omega) fun ad2 H2 locs2 h2 => ?_
  refine lv_istore hx hb ld_411 hl (by decide) rfl fun ls hl => ?_
  have hl : lv_has ls 7 [(6, .int r), (0, .ref b), (1, .ref X), (2, .ref M), (3, .ref oa), (4, .int (nI j)), (5, .int (lcode o))] := hl
  replace hl := lv_sub hl (l' := [(0, .ref b), (1, .ref X), (2, .ref M), (3, .ref oa), (4, .int (nI j)), (5, .int (lcode o)), (6, .int r)]) [1, 2, 3, 4, 5, 6, 0] rfl
  refine lv_aload_n hx hb ld_413 rfl (lv_at hl 2 rfl) ?_
  refine lcZ (N := 3) (n := 46) (m' := 75) (k0 := 16) (as' := []) (rest := []) C h2 (Or.inr ⟨rfl, rfl⟩) (by decide) (zhas_mem (by decide +kernel)) (by decide +kernel) (by decide +kernel) (by decide +kernel) (fun v hv => by cases hv) (lthrown t2) (by decide +kernel) (by decide +kernel) hl.1 (Nat.zero_le _) ld_414 (by show cells + _ + _ + _ ≤ 600002; omega) (by show slots + _ + _ + _ ≤ 7302232; omega) fun ad3 H3 locs3 h3 => ?_
  rw [hcode]
  refine lv_iload hx hb ld_417 (lv_at hl 5 rfl) ?_
  refine lv_icmp_eq (tgt := 424) hx hb ld_419 (by decide) (fun _ => ?_) (fun hne => absurd rfl hne)
  refine W.widen (k := cells + (t2.2 - t.2) + 1) (n := slots + 16 * (t2.2 - t.2) + 6) (by omega) (by omega) ?_
  have hend : ∀ (ad' : zA) (H' : Heap) (locs' : List Loc) (f' : Nat → Int64), lSt D ty A s cL oa X M ad' t2 H' locs' f' → W p l e room_1 s m0 args below meth c H' locs' (cells + (t2.2 - t.2) + 1) (slots + 16 * (t2.2 - t.2) + 6) Q (F0 m0 774 ls []) := fun ad' H' locs' f' h' => kk ad' H' locs' f' ls h' (lv_sub hl [0, 1, 2, 3, 4] rfl)
  refine lv_iload hx hb ld_424 (lv_at hl 5 rfl) ?_
  have hgo : W p l e room_1 s m0 args below meth c H3 locs3 (cells + (t2.2 - t.2) + 1) (slots + 16 * (t2.2 - t.2) + 6) Q (F0 m0 441 ls []) := lv_goto (tgt := 774) hx hb ld_441 (by decide) (hend ad3 H3 locs3 f1 h3)
  refine lv_if_ne (tgt := 441) hx hb ld_426 (by decide) (fun _ => hgo) (fun h0 => ?_)
  have hox : o = .inl (some (.inl r)) := by
    rcases ho2 with ⟨x, rfl⟩ | rfl | rfl
    · rw [hval x rfl]
    · exact absurd h0 (by decide)
    · exact absurd h0 (by decide)
  refine lv_aload_n hx hb ld_429 rfl (lv_at hl 3 rfl) ?_
  refine lv_iconst (v := 0) hx hb ld_430 (by decide) ?_
  refine va_lald hx hb hKL h3.2.1 0 0 rfl rfl (vp_in_nI (n := 0) (by decide) (by decide)) ld_431 ?_
  rw [show f1 (0 : Int32).toNatClampNeg = r.toInt64 from hf1 r hox]
  refine lv_iload hx hb ld_432 (lv_at hl 6 rfl) ?_
  refine lv_i2l hx hb ld_434 rfl ?_
  refine W.lcmp hx hb ld_435 ?_
  rw [show lg_cmp r.toInt64 r.toInt64 = 0 by simp [lg_cmp]]
  exact lv_if_eq (tgt := 441) hx hb ld_436 (by decide) (fun _ => hgo) (fun hne => absurd rfl hne)
set_option maxRecDepth 100000 in
theorem lop5 (C : lCx p l s m0 args c D ty A code 7) (hr : meth.sig.returnType = ret) (hn : lNn s) (hKL : va_K D zcl [(cL, .long)] s) (hAo : A oa) (hX : va_X b L xs s s.heap) (hbl : b < s.heap.size) (hbA : ¬ A b) (hL : L ≤ 2048) (hj : j + 3 < L) (h : lSt D ty A s cL oa X M ad t H locs f) (hl : lv_has ls 7 [(0, .ref b), (1, .ref X), (2, .ref M), (3, .ref oa), (4, .int (nI j))]) (hop : lOpA 5 110 false [.inl (xs (j + 1))] t t2) (hc : cells + (t2.2 - t.2) + 1 ≤ 600002) (hs : slots + 16 * (t2.2 - t.2) + 6 ≤ 7302232)
    (kk : ∀ (ad' : zA) (H' : Heap) (locs' : List Loc) (f' : Nat → Int64) (ls' : Array Slot), lSt D ty A s cL oa X M ad' t2 H' locs' f' → lv_has ls' 7 [(0, .ref b), (1, .ref X), (2, .ref M), (3, .ref oa), (4, .int (nI j))] → W p l e room_1 s m0 args below meth c H' locs' (cells + (t2.2 - t.2) + 1) (slots + 16 * (t2.2 - t.2) + 6) Q (F0 m0 774 ls' [])) : W p l e room_1 s m0 args below meth c H locs cells slots Q (F0 m0 444 ls []) := by
  have hx := C.1.1
  have hb := C.1.2.1
  obtain ⟨N1, N2, o, t1, r, z1, ho, z2, hcode, hval⟩ := hop
  have m1 := zrun_md _ _ _ _ _ z1
  have m2 := zrun_md _ _ _ _ _ z2
  have m1 : t.2 ≤ t1.2 := m1
  have m2 : t1.2 ≤ t2.2 := m2
  have hzt : zth o ≤ 1 := by cases o <;> simp [zth]
  refine lv_aload_n hx hb ld_444 rfl (lv_at hl 1 rfl) ?_
  refine lv_aload_n hx hb ld_445 rfl (lv_at hl 0 rfl) ?_
  refine lv_iload hx hb ld_446 (lv_at hl 4 rfl) ?_
  refine lv_iconst (v := nI 1) hx hb ld_448 (by decide) ?_
  refine lsld C hX hbl hbA h.1.2.2 (by omega) hL ld_449 ld_450 ?_
  refine lv_aload_n hx hb ld_451 rfl (lv_at hl 3 rfl) ?_
  have ho2 : (∃ x, o = .inl (some (.inl x))) ∨ o = .inr 1 ∨ o = .inr 2 := ho.elim Or.inl (fun q => q.elim (fun q => Or.inr (Or.inl q)) (fun q => q.elim (fun q => Or.inr (Or.inr q)) (fun q => absurd q.1 (by decide))))
  refine lcH (n := 64) (as := [.inl (xs (j + 1))]) (rest := []) (o := o) (t1 := t1) C hn hKL hAo h (lh5 (N := N1) (sz := H.size) C.2.2.2.2 z1 ho2 m1) rfl rfl (by show zFr 5 + 1 + 1 ≤ room_1.frames; decide +kernel) (by show 8 + (4 + 11) + (8 + (zlocs 5 + 11) + zLo 5) ≤ room_1.locals; decide +kernel) (List.mem_filter.mpr ⟨List.mem_of_getElem? lhw5, rfl⟩) (zhas_mem (by decide +kernel)) (zhas_mem (by decide +kernel)) (zhas_mem (by decide +kernel)) (by decide) (k := 3) (by decide +kernel) rfl hl.1 (Nat.zero_le _) ld_452 (by show cells + _ ≤ 600002; omega) (by show slots + _ ≤ 7302232; omega) fun ad1 H1 locs1 f1 h1 hf1 => ?_
  refine lv_istore hx hb ld_455 hl (by decide) rfl fun ls hl => ?_
  have hl : lv_has ls 7 [(5, .int (lcode o)), (0, .ref b), (1, .ref X), (2, .ref M), (3, .ref oa), (4, .int (nI j))] := hl
  replace hl := lv_sub hl (l' := [(0, .ref b), (1, .ref X), (2, .ref M), (3, .ref oa), (4, .int (nI j)), (5, .int (lcode o))]) [1, 2, 3, 4, 5, 0] rfl
  refine lv_aload_n hx hb ld_457 rfl (lv_at hl 2 rfl) ?_
  refine lv_aload_n hx hb ld_458 rfl (lv_at hl 0 rfl) ?_
  refine lv_iload hx hb ld_459 (lv_at hl 4 rfl) ?_
  refine lv_iconst (v := nI 1) hx hb ld_461 (by decide) ?_
  refine lsld C hX hbl hbA h1.1.2.2 (by omega) hL ld_462 ld_463 ?_
  refine lcZ (N := N2) (n := 66) (m' := 110) (k0 := 16) (as' := [.inl (xs (j + 1))]) (rest := []) C h1 (Or.inr ⟨rfl, rfl⟩) (by decide) (zhas_mem (by decide +kernel)) (by decide +kernel) (by decide +kernel) (by show 2 = znar 110; decide +kernel) (fun v hv => by simp only [List.mem_cons, List.not_mem_nil, or_false] at hv; rcases hv with rfl <;> rfl) z2 (by decide +kernel) (by decide +kernel) hl.1 (Nat.zero_le _) ld_464 (by show cells + _ + _ ≤ 600002; omega) (by show slots + _ + _ ≤ 7302232; omega) fun ad2 H2 locs2 h2 => ?_
  refine lv_istore hx hb ld_467 hl (by decide) rfl fun ls hl => ?_
  have hl : lv_has ls 7 [(6, .int r), (0, .ref b), (1, .ref X), (2, .ref M), (3, .ref oa), (4, .int (nI j)), (5, .int (lcode o))] := hl
  replace hl := lv_sub hl (l' := [(0, .ref b), (1, .ref X), (2, .ref M), (3, .ref oa), (4, .int (nI j)), (5, .int (lcode o)), (6, .int r)]) [1, 2, 3, 4, 5, 6, 0] rfl
  refine lv_aload_n hx hb ld_469 rfl (lv_at hl 2 rfl) ?_
  refine lcZ (N := 3) (n := 46) (m' := 75) (k0 := 16) (as' := []) (rest := []) C h2 (Or.inr ⟨rfl, rfl⟩) (by decide) (zhas_mem (by decide +kernel)) (by decide +kernel) (by decide +kernel) (by decide +kernel) (fun v hv => by cases hv) (lthrown t2) (by decide +kernel) (by decide +kernel) hl.1 (Nat.zero_le _) ld_470 (by show cells + _ + _ + _ ≤ 600002; omega) (by show slots + _ + _ + _ ≤ 7302232; omega) fun ad3 H3 locs3 h3 => ?_
  rw [hcode]
  refine lv_iload hx hb ld_473 (lv_at hl 5 rfl) ?_
  refine lv_icmp_eq (tgt := 480) hx hb ld_475 (by decide) (fun _ => ?_) (fun hne => absurd rfl hne)
  refine W.widen (k := cells + (t2.2 - t.2) + 1) (n := slots + 16 * (t2.2 - t.2) + 6) (by omega) (by omega) ?_
  have hend : ∀ (ad' : zA) (H' : Heap) (locs' : List Loc) (f' : Nat → Int64), lSt D ty A s cL oa X M ad' t2 H' locs' f' → W p l e room_1 s m0 args below meth c H' locs' (cells + (t2.2 - t.2) + 1) (slots + 16 * (t2.2 - t.2) + 6) Q (F0 m0 774 ls []) := fun ad' H' locs' f' h' => kk ad' H' locs' f' ls h' (lv_sub hl [0, 1, 2, 3, 4] rfl)
  refine lv_iload hx hb ld_480 (lv_at hl 5 rfl) ?_
  have hgo : W p l e room_1 s m0 args below meth c H3 locs3 (cells + (t2.2 - t.2) + 1) (slots + 16 * (t2.2 - t.2) + 6) Q (F0 m0 497 ls []) := lv_goto (tgt := 774) hx hb ld_497 (by decide) (hend ad3 H3 locs3 f1 h3)
  refine lv_if_ne (tgt := 497) hx hb ld_482 (by decide) (fun _ => hgo) (fun h0 => ?_)
  have hox : o = .inl (some (.inl r)) := by
    rcases ho2 with ⟨x, rfl⟩ | rfl | rfl
    · rw [hval x rfl]
    · exact absurd h0 (by decide)
    · exact absurd h0 (by decide)
  refine lv_aload_n hx hb ld_485 rfl (lv_at hl 3 rfl) ?_
  refine lv_iconst (v := 0) hx hb ld_486 (by decide) ?_
  refine va_lald hx hb hKL h3.2.1 0 0 rfl rfl (vp_in_nI (n := 0) (by decide) (by decide)) ld_487 ?_
  rw [show f1 (0 : Int32).toNatClampNeg = r.toInt64 from hf1 r hox]
  refine lv_iload hx hb ld_488 (lv_at hl 6 rfl) ?_
  refine lv_i2l hx hb ld_490 rfl ?_
  refine W.lcmp hx hb ld_491 ?_
  rw [show lg_cmp r.toInt64 r.toInt64 = 0 by simp [lg_cmp]]
  exact lv_if_eq (tgt := 497) hx hb ld_492 (by decide) (fun _ => hgo) (fun hne => absurd rfl hne)
set_option maxRecDepth 100000 in
theorem lop6 (C : lCx p l s m0 args c D ty A code 7) (hr : meth.sig.returnType = ret) (hn : lNn s) (hKL : va_K D zcl [(cL, .long)] s) (hAo : A oa) (hX : va_X b L xs s s.heap) (hbl : b < s.heap.size) (hbA : ¬ A b) (hL : L ≤ 2048) (hj : j + 3 < L) (h : lSt D ty A s cL oa X M ad t H locs f) (hl : lv_has ls 7 [(0, .ref b), (1, .ref X), (2, .ref M), (3, .ref oa), (4, .int (nI j))]) (hop : lOpB 6 111 [] t t2) (hc : cells + (t2.2 - t.2) + 1 ≤ 600002) (hs : slots + 16 * (t2.2 - t.2) + 6 ≤ 7302232)
    (kk : ∀ (ad' : zA) (H' : Heap) (locs' : List Loc) (f' : Nat → Int64) (ls' : Array Slot), lSt D ty A s cL oa X M ad' t2 H' locs' f' → lv_has ls' 7 [(0, .ref b), (1, .ref X), (2, .ref M), (3, .ref oa), (4, .int (nI j))] → W p l e room_1 s m0 args below meth c H' locs' (cells + (t2.2 - t.2) + 1) (slots + 16 * (t2.2 - t.2) + 6) Q (F0 m0 774 ls' [])) : W p l e room_1 s m0 args below meth c H locs cells slots Q (F0 m0 500 ls []) := by
  have hx := C.1.1
  have hb := C.1.2.1
  obtain ⟨N1, N2, v, t1, z1, z2⟩ := hop
  have m1 := zrun_md _ _ _ _ _ z1
  have m2 := zrun_md _ _ _ _ _ z2
  have m1 : t.2 ≤ t1.2 := m1
  have m2 : t1.2 ≤ t2.2 := m2
  refine lv_aload_n hx hb ld_500 rfl (lv_at hl 1 rfl) ?_
  refine lcZ (N := N1) (n := 67) (m' := 6) (k0 := 0) (as' := []) (rest := []) C h (Or.inl ⟨rfl, rfl⟩) (by decide) (zhas_mem (by decide +kernel)) (by decide +kernel) (by decide +kernel) (by show 1 = znar 6; decide +kernel) (fun v hv => by cases hv) z1 (by decide +kernel) (by decide +kernel) hl.1 (Nat.zero_le _) ld_501 (by show cells + _ ≤ 600002; omega) (by show slots + _ ≤ 7302232; omega) fun ad1 H1 locs1 h1 => ?_
  refine lv_aload_n hx hb ld_504 rfl (lv_at hl 2 rfl) ?_
  refine lcZ (N := N2) (n := 70) (m' := 111) (k0 := 16) (as' := []) (rest := [.int v]) C h1 (Or.inr ⟨rfl, rfl⟩) (by decide) (zhas_mem (by decide +kernel)) (by decide +kernel) (by decide +kernel) (by show 1 = znar 111; decide +kernel) (fun v hv => by cases hv) z2 (by decide +kernel) (by decide +kernel) hl.1 (Nat.le_of_ble_eq_true rfl) ld_505 (by show cells + _ + _ ≤ 600002; omega) (by show slots + _ + _ ≤ 7302232; omega) fun ad2 H2 locs2 h2 => ?_
  refine lv_icmp_eq (tgt := 774) hx hb ld_508 (by decide) (fun _ => ?_) (fun hne => absurd rfl hne)
  refine W.widen (k := cells + (t2.2 - t.2) + 1) (n := slots + 16 * (t2.2 - t.2) + 6) (by omega) (by omega) ?_
  exact kk ad2 H2 locs2 f ls h2 hl
set_option maxRecDepth 100000 in
theorem lop7 (C : lCx p l s m0 args c D ty A code 7) (hr : meth.sig.returnType = ret) (hn : lNn s) (hKL : va_K D zcl [(cL, .long)] s) (hAo : A oa) (hX : va_X b L xs s s.heap) (hbl : b < s.heap.size) (hbA : ¬ A b) (hL : L ≤ 2048) (hj : j + 3 < L) (h : lSt D ty A s cL oa X M ad t H locs f) (hl : lv_has ls 7 [(0, .ref b), (1, .ref X), (2, .ref M), (3, .ref oa), (4, .int (nI j))]) (hop : lOpB 7 113 [.inl (xs (j + 1))] t t2) (hc : cells + (t2.2 - t.2) + 1 ≤ 600002) (hs : slots + 16 * (t2.2 - t.2) + 6 ≤ 7302232)
    (kk : ∀ (ad' : zA) (H' : Heap) (locs' : List Loc) (f' : Nat → Int64) (ls' : Array Slot), lSt D ty A s cL oa X M ad' t2 H' locs' f' → lv_has ls' 7 [(0, .ref b), (1, .ref X), (2, .ref M), (3, .ref oa), (4, .int (nI j))] → W p l e room_1 s m0 args below meth c H' locs' (cells + (t2.2 - t.2) + 1) (slots + 16 * (t2.2 - t.2) + 6) Q (F0 m0 774 ls' [])) : W p l e room_1 s m0 args below meth c H locs cells slots Q (F0 m0 513 ls []) := by
  have hx := C.1.1
  have hb := C.1.2.1
  obtain ⟨N1, N2, v, t1, z1, z2⟩ := hop
  have m1 := zrun_md _ _ _ _ _ z1
  have m2 := zrun_md _ _ _ _ _ z2
  have m1 : t.2 ≤ t1.2 := m1
  have m2 : t1.2 ≤ t2.2 := m2
  refine lv_aload_n hx hb ld_513 rfl (lv_at hl 1 rfl) ?_
  refine lv_aload_n hx hb ld_514 rfl (lv_at hl 0 rfl) ?_
  refine lv_iload hx hb ld_515 (lv_at hl 4 rfl) ?_
  refine lv_iconst (v := nI 1) hx hb ld_517 (by decide) ?_
  refine lsld C hX hbl hbA h.1.2.2 (by omega) hL ld_518 ld_519 ?_
  refine lcZ (N := N1) (n := 71) (m' := 7) (k0 := 0) (as' := [.inl (xs (j + 1))]) (rest := []) C h (Or.inl ⟨rfl, rfl⟩) (by decide) (zhas_mem (by decide +kernel)) (by decide +kernel) (by decide +kernel) (by show 2 = znar 7; decide +kernel) (fun v hv => by simp only [List.mem_cons, List.not_mem_nil, or_false] at hv; rcases hv with rfl <;> rfl) z1 (by decide +kernel) (by decide +kernel) hl.1 (Nat.zero_le _) ld_520 (by show cells + _ ≤ 600002; omega) (by show slots + _ ≤ 7302232; omega) fun ad1 H1 locs1 h1 => ?_
  refine lv_aload_n hx hb ld_523 rfl (lv_at hl 2 rfl) ?_
  refine lv_aload_n hx hb ld_524 rfl (lv_at hl 0 rfl) ?_
  refine lv_iload hx hb ld_525 (lv_at hl 4 rfl) ?_
  refine lv_iconst (v := nI 1) hx hb ld_527 (by decide) ?_
  refine lsld C hX hbl hbA h1.1.2.2 (by omega) hL ld_528 ld_529 ?_
  refine lcZ (N := N2) (n := 75) (m' := 113) (k0 := 16) (as' := [.inl (xs (j + 1))]) (rest := [.int v]) C h1 (Or.inr ⟨rfl, rfl⟩) (by decide) (zhas_mem (by decide +kernel)) (by decide +kernel) (by decide +kernel) (by show 2 = znar 113; decide +kernel) (fun v hv => by simp only [List.mem_cons, List.not_mem_nil, or_false] at hv; rcases hv with rfl <;> rfl) z2 (by decide +kernel) (by decide +kernel) hl.1 (Nat.le_of_ble_eq_true rfl) ld_530 (by show cells + _ + _ ≤ 600002; omega) (by show slots + _ + _ ≤ 7302232; omega) fun ad2 H2 locs2 h2 => ?_
  refine lv_icmp_eq (tgt := 774) hx hb ld_533 (by decide) (fun _ => ?_) (fun hne => absurd rfl hne)
  refine W.widen (k := cells + (t2.2 - t.2) + 1) (n := slots + 16 * (t2.2 - t.2) + 6) (by omega) (by omega) ?_
  exact kk ad2 H2 locs2 f ls h2 hl
set_option maxRecDepth 100000 in
theorem lop8 (C : lCx p l s m0 args c D ty A code 7) (hr : meth.sig.returnType = ret) (hn : lNn s) (hKL : va_K D zcl [(cL, .long)] s) (hAo : A oa) (hX : va_X b L xs s s.heap) (hbl : b < s.heap.size) (hbA : ¬ A b) (hL : L ≤ 2048) (hj : j + 3 < L) (h : lSt D ty A s cL oa X M ad t H locs f) (hl : lv_has ls 7 [(0, .ref b), (1, .ref X), (2, .ref M), (3, .ref oa), (4, .int (nI j))]) (hop : lOpB 8 114 [.inl (xs (j + 1))] t t2) (hc : cells + (t2.2 - t.2) + 1 ≤ 600002) (hs : slots + 16 * (t2.2 - t.2) + 6 ≤ 7302232)
    (kk : ∀ (ad' : zA) (H' : Heap) (locs' : List Loc) (f' : Nat → Int64) (ls' : Array Slot), lSt D ty A s cL oa X M ad' t2 H' locs' f' → lv_has ls' 7 [(0, .ref b), (1, .ref X), (2, .ref M), (3, .ref oa), (4, .int (nI j))] → W p l e room_1 s m0 args below meth c H' locs' (cells + (t2.2 - t.2) + 1) (slots + 16 * (t2.2 - t.2) + 6) Q (F0 m0 774 ls' [])) : W p l e room_1 s m0 args below meth c H locs cells slots Q (F0 m0 538 ls []) := by
  have hx := C.1.1
  have hb := C.1.2.1
  obtain ⟨N1, N2, v, t1, z1, z2⟩ := hop
  have m1 := zrun_md _ _ _ _ _ z1
  have m2 := zrun_md _ _ _ _ _ z2
  have m1 : t.2 ≤ t1.2 := m1
  have m2 : t1.2 ≤ t2.2 := m2
  refine lv_aload_n hx hb ld_538 rfl (lv_at hl 1 rfl) ?_
  refine lv_aload_n hx hb ld_539 rfl (lv_at hl 0 rfl) ?_
  refine lv_iload hx hb ld_540 (lv_at hl 4 rfl) ?_
  refine lv_iconst (v := nI 1) hx hb ld_542 (by decide) ?_
  refine lsld C hX hbl hbA h.1.2.2 (by omega) hL ld_543 ld_544 ?_
  refine lcZ (N := N1) (n := 76) (m' := 8) (k0 := 0) (as' := [.inl (xs (j + 1))]) (rest := []) C h (Or.inl ⟨rfl, rfl⟩) (by decide) (zhas_mem (by decide +kernel)) (by decide +kernel) (by decide +kernel) (by show 2 = znar 8; decide +kernel) (fun v hv => by simp only [List.mem_cons, List.not_mem_nil, or_false] at hv; rcases hv with rfl <;> rfl) z1 (by decide +kernel) (by decide +kernel) hl.1 (Nat.zero_le _) ld_545 (by show cells + _ ≤ 600002; omega) (by show slots + _ ≤ 7302232; omega) fun ad1 H1 locs1 h1 => ?_
  refine lv_aload_n hx hb ld_548 rfl (lv_at hl 2 rfl) ?_
  refine lv_aload_n hx hb ld_549 rfl (lv_at hl 0 rfl) ?_
  refine lv_iload hx hb ld_550 (lv_at hl 4 rfl) ?_
  refine lv_iconst (v := nI 1) hx hb ld_552 (by decide) ?_
  refine lsld C hX hbl hbA h1.1.2.2 (by omega) hL ld_553 ld_554 ?_
  refine lcZ (N := N2) (n := 79) (m' := 114) (k0 := 16) (as' := [.inl (xs (j + 1))]) (rest := [.int v]) C h1 (Or.inr ⟨rfl, rfl⟩) (by decide) (zhas_mem (by decide +kernel)) (by decide +kernel) (by decide +kernel) (by show 2 = znar 114; decide +kernel) (fun v hv => by simp only [List.mem_cons, List.not_mem_nil, or_false] at hv; rcases hv with rfl <;> rfl) z2 (by decide +kernel) (by decide +kernel) hl.1 (Nat.le_of_ble_eq_true rfl) ld_555 (by show cells + _ + _ ≤ 600002; omega) (by show slots + _ + _ ≤ 7302232; omega) fun ad2 H2 locs2 h2 => ?_
  refine lv_icmp_eq (tgt := 774) hx hb ld_558 (by decide) (fun _ => ?_) (fun hne => absurd rfl hne)
  refine W.widen (k := cells + (t2.2 - t.2) + 1) (n := slots + 16 * (t2.2 - t.2) + 6) (by omega) (by omega) ?_
  exact kk ad2 H2 locs2 f ls h2 hl
set_option maxRecDepth 100000 in
theorem lop9 (C : lCx p l s m0 args c D ty A code 7) (hr : meth.sig.returnType = ret) (hn : lNn s) (hKL : va_K D zcl [(cL, .long)] s) (hAo : A oa) (hX : va_X b L xs s s.heap) (hbl : b < s.heap.size) (hbA : ¬ A b) (hL : L ≤ 2048) (hj : j + 3 < L) (h : lSt D ty A s cL oa X M ad t H locs f) (hl : lv_has ls 7 [(0, .ref b), (1, .ref X), (2, .ref M), (3, .ref oa), (4, .int (nI j))]) (hop : lOpB 9 115 [.inl (xs (j + 1))] t t2) (hc : cells + (t2.2 - t.2) + 1 ≤ 600002) (hs : slots + 16 * (t2.2 - t.2) + 6 ≤ 7302232)
    (kk : ∀ (ad' : zA) (H' : Heap) (locs' : List Loc) (f' : Nat → Int64) (ls' : Array Slot), lSt D ty A s cL oa X M ad' t2 H' locs' f' → lv_has ls' 7 [(0, .ref b), (1, .ref X), (2, .ref M), (3, .ref oa), (4, .int (nI j))] → W p l e room_1 s m0 args below meth c H' locs' (cells + (t2.2 - t.2) + 1) (slots + 16 * (t2.2 - t.2) + 6) Q (F0 m0 774 ls' [])) : W p l e room_1 s m0 args below meth c H locs cells slots Q (F0 m0 563 ls []) := by
  have hx := C.1.1
  have hb := C.1.2.1
  obtain ⟨N1, N2, v, t1, z1, z2⟩ := hop
  have m1 := zrun_md _ _ _ _ _ z1
  have m2 := zrun_md _ _ _ _ _ z2
  have m1 : t.2 ≤ t1.2 := m1
  have m2 : t1.2 ≤ t2.2 := m2
  refine lv_aload_n hx hb ld_563 rfl (lv_at hl 1 rfl) ?_
  refine lv_aload_n hx hb ld_564 rfl (lv_at hl 0 rfl) ?_
  refine lv_iload hx hb ld_565 (lv_at hl 4 rfl) ?_
  refine lv_iconst (v := nI 1) hx hb ld_567 (by decide) ?_
  refine lsld C hX hbl hbA h.1.2.2 (by omega) hL ld_568 ld_569 ?_
  refine lcZ (N := N1) (n := 80) (m' := 9) (k0 := 0) (as' := [.inl (xs (j + 1))]) (rest := []) C h (Or.inl ⟨rfl, rfl⟩) (by decide) (zhas_mem (by decide +kernel)) (by decide +kernel) (by decide +kernel) (by show 2 = znar 9; decide +kernel) (fun v hv => by simp only [List.mem_cons, List.not_mem_nil, or_false] at hv; rcases hv with rfl <;> rfl) z1 (by decide +kernel) (by decide +kernel) hl.1 (Nat.zero_le _) ld_570 (by show cells + _ ≤ 600002; omega) (by show slots + _ ≤ 7302232; omega) fun ad1 H1 locs1 h1 => ?_
  refine lv_aload_n hx hb ld_573 rfl (lv_at hl 2 rfl) ?_
  refine lv_aload_n hx hb ld_574 rfl (lv_at hl 0 rfl) ?_
  refine lv_iload hx hb ld_575 (lv_at hl 4 rfl) ?_
  refine lv_iconst (v := nI 1) hx hb ld_577 (by decide) ?_
  refine lsld C hX hbl hbA h1.1.2.2 (by omega) hL ld_578 ld_579 ?_
  refine lcZ (N := N2) (n := 83) (m' := 115) (k0 := 16) (as' := [.inl (xs (j + 1))]) (rest := [.int v]) C h1 (Or.inr ⟨rfl, rfl⟩) (by decide) (zhas_mem (by decide +kernel)) (by decide +kernel) (by decide +kernel) (by show 2 = znar 115; decide +kernel) (fun v hv => by simp only [List.mem_cons, List.not_mem_nil, or_false] at hv; rcases hv with rfl <;> rfl) z2 (by decide +kernel) (by decide +kernel) hl.1 (Nat.le_of_ble_eq_true rfl) ld_580 (by show cells + _ + _ ≤ 600002; omega) (by show slots + _ + _ ≤ 7302232; omega) fun ad2 H2 locs2 h2 => ?_
  refine lv_icmp_eq (tgt := 774) hx hb ld_583 (by decide) (fun _ => ?_) (fun hne => absurd rfl hne)
  refine W.widen (k := cells + (t2.2 - t.2) + 1) (n := slots + 16 * (t2.2 - t.2) + 6) (by omega) (by omega) ?_
  exact kk ad2 H2 locs2 f ls h2 hl
set_option maxRecDepth 100000 in
theorem lop10 (C : lCx p l s m0 args c D ty A code 7) (hr : meth.sig.returnType = ret) (hn : lNn s) (hKL : va_K D zcl [(cL, .long)] s) (hAo : A oa) (hX : va_X b L xs s s.heap) (hbl : b < s.heap.size) (hbA : ¬ A b) (hL : L ≤ 2048) (hj : j + 3 < L) (h : lSt D ty A s cL oa X M ad t H locs f) (hl : lv_has ls 7 [(0, .ref b), (1, .ref X), (2, .ref M), (3, .ref oa), (4, .int (nI j))]) (hop : lOpB 10 116 [] t t2) (hc : cells + (t2.2 - t.2) + 1 ≤ 600002) (hs : slots + 16 * (t2.2 - t.2) + 6 ≤ 7302232)
    (kk : ∀ (ad' : zA) (H' : Heap) (locs' : List Loc) (f' : Nat → Int64) (ls' : Array Slot), lSt D ty A s cL oa X M ad' t2 H' locs' f' → lv_has ls' 7 [(0, .ref b), (1, .ref X), (2, .ref M), (3, .ref oa), (4, .int (nI j))] → W p l e room_1 s m0 args below meth c H' locs' (cells + (t2.2 - t.2) + 1) (slots + 16 * (t2.2 - t.2) + 6) Q (F0 m0 774 ls' [])) : W p l e room_1 s m0 args below meth c H locs cells slots Q (F0 m0 588 ls []) := by
  have hx := C.1.1
  have hb := C.1.2.1
  obtain ⟨N1, N2, v, t1, z1, z2⟩ := hop
  have m1 := zrun_md _ _ _ _ _ z1
  have m2 := zrun_md _ _ _ _ _ z2
  have m1 : t.2 ≤ t1.2 := m1
  have m2 : t1.2 ≤ t2.2 := m2
  refine lv_aload_n hx hb ld_588 rfl (lv_at hl 1 rfl) ?_
  refine lcZ (N := N1) (n := 84) (m' := 10) (k0 := 0) (as' := []) (rest := []) C h (Or.inl ⟨rfl, rfl⟩) (by decide) (zhas_mem (by decide +kernel)) (by decide +kernel) (by decide +kernel) (by show 1 = znar 10; decide +kernel) (fun v hv => by cases hv) z1 (by decide +kernel) (by decide +kernel) hl.1 (Nat.zero_le _) ld_589 (by show cells + _ ≤ 600002; omega) (by show slots + _ ≤ 7302232; omega) fun ad1 H1 locs1 h1 => ?_
  refine lv_aload_n hx hb ld_592 rfl (lv_at hl 2 rfl) ?_
  refine lcZ (N := N2) (n := 87) (m' := 116) (k0 := 16) (as' := []) (rest := [.int v]) C h1 (Or.inr ⟨rfl, rfl⟩) (by decide) (zhas_mem (by decide +kernel)) (by decide +kernel) (by decide +kernel) (by show 1 = znar 116; decide +kernel) (fun v hv => by cases hv) z2 (by decide +kernel) (by decide +kernel) hl.1 (Nat.le_of_ble_eq_true rfl) ld_593 (by show cells + _ + _ ≤ 600002; omega) (by show slots + _ + _ ≤ 7302232; omega) fun ad2 H2 locs2 h2 => ?_
  refine lv_icmp_eq (tgt := 774) hx hb ld_596 (by decide) (fun _ => ?_) (fun hne => absurd rfl hne)
  refine W.widen (k := cells + (t2.2 - t.2) + 1) (n := slots + 16 * (t2.2 - t.2) + 6) (by omega) (by omega) ?_
  exact kk ad2 H2 locs2 f ls h2 hl
set_option maxRecDepth 100000 in
theorem lop11 (C : lCx p l s m0 args c D ty A code 7) (hr : meth.sig.returnType = ret) (hn : lNn s) (hKL : va_K D zcl [(cL, .long)] s) (hAo : A oa) (hX : va_X b L xs s s.heap) (hbl : b < s.heap.size) (hbA : ¬ A b) (hL : L ≤ 2048) (hj : j + 3 < L) (h : lSt D ty A s cL oa X M ad t H locs f) (hl : lv_has ls 7 [(0, .ref b), (1, .ref X), (2, .ref M), (3, .ref oa), (4, .int (nI j))]) (hop : lOpB 11 118 [.inl (xs (j + 1)), .inl (xs (j + 2))] t t2) (hc : cells + (t2.2 - t.2) + 1 ≤ 600002) (hs : slots + 16 * (t2.2 - t.2) + 6 ≤ 7302232)
    (kk : ∀ (ad' : zA) (H' : Heap) (locs' : List Loc) (f' : Nat → Int64) (ls' : Array Slot), lSt D ty A s cL oa X M ad' t2 H' locs' f' → lv_has ls' 7 [(0, .ref b), (1, .ref X), (2, .ref M), (3, .ref oa), (4, .int (nI j))] → W p l e room_1 s m0 args below meth c H' locs' (cells + (t2.2 - t.2) + 1) (slots + 16 * (t2.2 - t.2) + 6) Q (F0 m0 774 ls' [])) : W p l e room_1 s m0 args below meth c H locs cells slots Q (F0 m0 601 ls []) := by
  have hx := C.1.1
  have hb := C.1.2.1
  obtain ⟨N1, N2, v, t1, z1, z2⟩ := hop
  have m1 := zrun_md _ _ _ _ _ z1
  have m2 := zrun_md _ _ _ _ _ z2
  have m1 : t.2 ≤ t1.2 := m1
  have m2 : t1.2 ≤ t2.2 := m2
  refine lv_aload_n hx hb ld_601 rfl (lv_at hl 1 rfl) ?_
  refine lv_aload_n hx hb ld_602 rfl (lv_at hl 0 rfl) ?_
  refine lv_iload hx hb ld_603 (lv_at hl 4 rfl) ?_
  refine lv_iconst (v := nI 1) hx hb ld_605 (by decide) ?_
  refine lsld C hX hbl hbA h.1.2.2 (by omega) hL ld_606 ld_607 ?_
  refine lv_aload_n hx hb ld_608 rfl (lv_at hl 0 rfl) ?_
  refine lv_iload hx hb ld_609 (lv_at hl 4 rfl) ?_
  refine lv_iconst (v := nI 2) hx hb ld_611 (by decide) ?_
  refine lsld C hX hbl hbA h.1.2.2 (by omega) hL ld_612 ld_613 ?_
  refine lcZ (N := N1) (n := 88) (m' := 11) (k0 := 0) (as' := [.inl (xs (j + 1)), .inl (xs (j + 2))]) (rest := []) C h (Or.inl ⟨rfl, rfl⟩) (by decide) (zhas_mem (by decide +kernel)) (by decide +kernel) (by decide +kernel) (by show 3 = znar 11; decide +kernel) (fun v hv => by simp only [List.mem_cons, List.not_mem_nil, or_false] at hv; rcases hv with rfl | rfl <;> rfl) z1 (by decide +kernel) (by decide +kernel) hl.1 (Nat.zero_le _) ld_614 (by show cells + _ ≤ 600002; omega) (by show slots + _ ≤ 7302232; omega) fun ad1 H1 locs1 h1 => ?_
  refine lv_aload_n hx hb ld_617 rfl (lv_at hl 2 rfl) ?_
  refine lv_aload_n hx hb ld_618 rfl (lv_at hl 0 rfl) ?_
  refine lv_iload hx hb ld_619 (lv_at hl 4 rfl) ?_
  refine lv_iconst (v := nI 1) hx hb ld_621 (by decide) ?_
  refine lsld C hX hbl hbA h1.1.2.2 (by omega) hL ld_622 ld_623 ?_
  refine lv_aload_n hx hb ld_624 rfl (lv_at hl 0 rfl) ?_
  refine lv_iload hx hb ld_625 (lv_at hl 4 rfl) ?_
  refine lv_iconst (v := nI 2) hx hb ld_627 (by decide) ?_
  refine lsld C hX hbl hbA h1.1.2.2 (by omega) hL ld_628 ld_629 ?_
  refine lcZ (N := N2) (n := 91) (m' := 118) (k0 := 16) (as' := [.inl (xs (j + 1)), .inl (xs (j + 2))]) (rest := [.int v]) C h1 (Or.inr ⟨rfl, rfl⟩) (by decide) (zhas_mem (by decide +kernel)) (by decide +kernel) (by decide +kernel) (by show 3 = znar 118; decide +kernel) (fun v hv => by simp only [List.mem_cons, List.not_mem_nil, or_false] at hv; rcases hv with rfl | rfl <;> rfl) z2 (by decide +kernel) (by decide +kernel) hl.1 (Nat.le_of_ble_eq_true rfl) ld_630 (by show cells + _ + _ ≤ 600002; omega) (by show slots + _ + _ ≤ 7302232; omega) fun ad2 H2 locs2 h2 => ?_
  refine lv_icmp_eq (tgt := 774) hx hb ld_633 (by decide) (fun _ => ?_) (fun hne => absurd rfl hne)
  refine W.widen (k := cells + (t2.2 - t.2) + 1) (n := slots + 16 * (t2.2 - t.2) + 6) (by omega) (by omega) ?_
  exact kk ad2 H2 locs2 f ls h2 hl
set_option maxRecDepth 100000 in
theorem lop12 (C : lCx p l s m0 args c D ty A code 7) (hr : meth.sig.returnType = ret) (hn : lNn s) (hKL : va_K D zcl [(cL, .long)] s) (hAo : A oa) (hX : va_X b L xs s s.heap) (hbl : b < s.heap.size) (hbA : ¬ A b) (hL : L ≤ 2048) (hj : j + 3 < L) (h : lSt D ty A s cL oa X M ad t H locs f) (hl : lv_has ls 7 [(0, .ref b), (1, .ref X), (2, .ref M), (3, .ref oa), (4, .int (nI j))]) (hop : lOpB 12 119 [.inl (xs (j + 1)), .inl (xs (j + 2))] t t2) (hc : cells + (t2.2 - t.2) + 1 ≤ 600002) (hs : slots + 16 * (t2.2 - t.2) + 6 ≤ 7302232)
    (kk : ∀ (ad' : zA) (H' : Heap) (locs' : List Loc) (f' : Nat → Int64) (ls' : Array Slot), lSt D ty A s cL oa X M ad' t2 H' locs' f' → lv_has ls' 7 [(0, .ref b), (1, .ref X), (2, .ref M), (3, .ref oa), (4, .int (nI j))] → W p l e room_1 s m0 args below meth c H' locs' (cells + (t2.2 - t.2) + 1) (slots + 16 * (t2.2 - t.2) + 6) Q (F0 m0 774 ls' [])) : W p l e room_1 s m0 args below meth c H locs cells slots Q (F0 m0 638 ls []) := by
  have hx := C.1.1
  have hb := C.1.2.1
  obtain ⟨N1, N2, v, t1, z1, z2⟩ := hop
  have m1 := zrun_md _ _ _ _ _ z1
  have m2 := zrun_md _ _ _ _ _ z2
  have m1 : t.2 ≤ t1.2 := m1
  have m2 : t1.2 ≤ t2.2 := m2
  refine lv_aload_n hx hb ld_638 rfl (lv_at hl 1 rfl) ?_
  refine lv_aload_n hx hb ld_639 rfl (lv_at hl 0 rfl) ?_
  refine lv_iload hx hb ld_640 (lv_at hl 4 rfl) ?_
  refine lv_iconst (v := nI 1) hx hb ld_642 (by decide) ?_
  refine lsld C hX hbl hbA h.1.2.2 (by omega) hL ld_643 ld_644 ?_
  refine lv_aload_n hx hb ld_645 rfl (lv_at hl 0 rfl) ?_
  refine lv_iload hx hb ld_646 (lv_at hl 4 rfl) ?_
  refine lv_iconst (v := nI 2) hx hb ld_648 (by decide) ?_
  refine lsld C hX hbl hbA h.1.2.2 (by omega) hL ld_649 ld_650 ?_
  refine lcZ (N := N1) (n := 92) (m' := 12) (k0 := 0) (as' := [.inl (xs (j + 1)), .inl (xs (j + 2))]) (rest := []) C h (Or.inl ⟨rfl, rfl⟩) (by decide) (zhas_mem (by decide +kernel)) (by decide +kernel) (by decide +kernel) (by show 3 = znar 12; decide +kernel) (fun v hv => by simp only [List.mem_cons, List.not_mem_nil, or_false] at hv; rcases hv with rfl | rfl <;> rfl) z1 (by decide +kernel) (by decide +kernel) hl.1 (Nat.zero_le _) ld_651 (by show cells + _ ≤ 600002; omega) (by show slots + _ ≤ 7302232; omega) fun ad1 H1 locs1 h1 => ?_
  refine lv_aload_n hx hb ld_654 rfl (lv_at hl 2 rfl) ?_
  refine lv_aload_n hx hb ld_655 rfl (lv_at hl 0 rfl) ?_
  refine lv_iload hx hb ld_656 (lv_at hl 4 rfl) ?_
  refine lv_iconst (v := nI 1) hx hb ld_658 (by decide) ?_
  refine lsld C hX hbl hbA h1.1.2.2 (by omega) hL ld_659 ld_660 ?_
  refine lv_aload_n hx hb ld_661 rfl (lv_at hl 0 rfl) ?_
  refine lv_iload hx hb ld_662 (lv_at hl 4 rfl) ?_
  refine lv_iconst (v := nI 2) hx hb ld_664 (by decide) ?_
  refine lsld C hX hbl hbA h1.1.2.2 (by omega) hL ld_665 ld_666 ?_
  refine lcZ (N := N2) (n := 95) (m' := 119) (k0 := 16) (as' := [.inl (xs (j + 1)), .inl (xs (j + 2))]) (rest := [.int v]) C h1 (Or.inr ⟨rfl, rfl⟩) (by decide) (zhas_mem (by decide +kernel)) (by decide +kernel) (by decide +kernel) (by show 3 = znar 119; decide +kernel) (fun v hv => by simp only [List.mem_cons, List.not_mem_nil, or_false] at hv; rcases hv with rfl | rfl <;> rfl) z2 (by decide +kernel) (by decide +kernel) hl.1 (Nat.le_of_ble_eq_true rfl) ld_667 (by show cells + _ + _ ≤ 600002; omega) (by show slots + _ + _ ≤ 7302232; omega) fun ad2 H2 locs2 h2 => ?_
  refine lv_icmp_eq (tgt := 774) hx hb ld_670 (by decide) (fun _ => ?_) (fun hne => absurd rfl hne)
  refine W.widen (k := cells + (t2.2 - t.2) + 1) (n := slots + 16 * (t2.2 - t.2) + 6) (by omega) (by omega) ?_
  exact kk ad2 H2 locs2 f ls h2 hl
set_option maxRecDepth 100000 in
theorem lop13 (C : lCx p l s m0 args c D ty A code 7) (hr : meth.sig.returnType = ret) (hn : lNn s) (hKL : va_K D zcl [(cL, .long)] s) (hAo : A oa) (hX : va_X b L xs s s.heap) (hbl : b < s.heap.size) (hbA : ¬ A b) (hL : L ≤ 2048) (hj : j + 3 < L) (h : lSt D ty A s cL oa X M ad t H locs f) (hl : lv_has ls 7 [(0, .ref b), (1, .ref X), (2, .ref M), (3, .ref oa), (4, .int (nI j))]) (hop : lOpB 13 120 [.inl (xs (j + 1))] t t2) (hc : cells + (t2.2 - t.2) + 1 ≤ 600002) (hs : slots + 16 * (t2.2 - t.2) + 6 ≤ 7302232)
    (kk : ∀ (ad' : zA) (H' : Heap) (locs' : List Loc) (f' : Nat → Int64) (ls' : Array Slot), lSt D ty A s cL oa X M ad' t2 H' locs' f' → lv_has ls' 7 [(0, .ref b), (1, .ref X), (2, .ref M), (3, .ref oa), (4, .int (nI j))] → W p l e room_1 s m0 args below meth c H' locs' (cells + (t2.2 - t.2) + 1) (slots + 16 * (t2.2 - t.2) + 6) Q (F0 m0 774 ls' [])) : W p l e room_1 s m0 args below meth c H locs cells slots Q (F0 m0 675 ls []) := by
  have hx := C.1.1
  have hb := C.1.2.1
  obtain ⟨N1, N2, v, t1, z1, z2⟩ := hop
  have m1 := zrun_md _ _ _ _ _ z1
  have m2 := zrun_md _ _ _ _ _ z2
  have m1 : t.2 ≤ t1.2 := m1
  have m2 : t1.2 ≤ t2.2 := m2
  refine lv_aload_n hx hb ld_675 rfl (lv_at hl 1 rfl) ?_
  refine lv_aload_n hx hb ld_676 rfl (lv_at hl 0 rfl) ?_
  refine lv_iload hx hb ld_677 (lv_at hl 4 rfl) ?_
  refine lv_iconst (v := nI 1) hx hb ld_679 (by decide) ?_
  refine lsld C hX hbl hbA h.1.2.2 (by omega) hL ld_680 ld_681 ?_
  refine lcZ (N := N1) (n := 96) (m' := 13) (k0 := 0) (as' := [.inl (xs (j + 1))]) (rest := []) C h (Or.inl ⟨rfl, rfl⟩) (by decide) (zhas_mem (by decide +kernel)) (by decide +kernel) (by decide +kernel) (by show 2 = znar 13; decide +kernel) (fun v hv => by simp only [List.mem_cons, List.not_mem_nil, or_false] at hv; rcases hv with rfl <;> rfl) z1 (by decide +kernel) (by decide +kernel) hl.1 (Nat.zero_le _) ld_682 (by show cells + _ ≤ 600002; omega) (by show slots + _ ≤ 7302232; omega) fun ad1 H1 locs1 h1 => ?_
  refine lv_aload_n hx hb ld_685 rfl (lv_at hl 2 rfl) ?_
  refine lv_aload_n hx hb ld_686 rfl (lv_at hl 0 rfl) ?_
  refine lv_iload hx hb ld_687 (lv_at hl 4 rfl) ?_
  refine lv_iconst (v := nI 1) hx hb ld_689 (by decide) ?_
  refine lsld C hX hbl hbA h1.1.2.2 (by omega) hL ld_690 ld_691 ?_
  refine lcZ (N := N2) (n := 99) (m' := 120) (k0 := 16) (as' := [.inl (xs (j + 1))]) (rest := [.int v]) C h1 (Or.inr ⟨rfl, rfl⟩) (by decide) (zhas_mem (by decide +kernel)) (by decide +kernel) (by decide +kernel) (by show 2 = znar 120; decide +kernel) (fun v hv => by simp only [List.mem_cons, List.not_mem_nil, or_false] at hv; rcases hv with rfl <;> rfl) z2 (by decide +kernel) (by decide +kernel) hl.1 (Nat.le_of_ble_eq_true rfl) ld_692 (by show cells + _ + _ ≤ 600002; omega) (by show slots + _ + _ ≤ 7302232; omega) fun ad2 H2 locs2 h2 => ?_
  refine lv_icmp_eq (tgt := 774) hx hb ld_695 (by decide) (fun _ => ?_) (fun hne => absurd rfl hne)
  refine W.widen (k := cells + (t2.2 - t.2) + 1) (n := slots + 16 * (t2.2 - t.2) + 6) (by omega) (by omega) ?_
  exact kk ad2 H2 locs2 f ls h2 hl
set_option maxRecDepth 100000 in
theorem lop14 (C : lCx p l s m0 args c D ty A code 7) (hr : meth.sig.returnType = ret) (hn : lNn s) (hKL : va_K D zcl [(cL, .long)] s) (hAo : A oa) (hX : va_X b L xs s s.heap) (hbl : b < s.heap.size) (hbA : ¬ A b) (hL : L ≤ 2048) (hj : j + 3 < L) (h : lSt D ty A s cL oa X M ad t H locs f) (hl : lv_has ls 7 [(0, .ref b), (1, .ref X), (2, .ref M), (3, .ref oa), (4, .int (nI j))]) (hop : lOpB 14 121 [.inl (xs (j + 1)), .inl (xs (j + 2))] t t2) (hc : cells + (t2.2 - t.2) + 1 ≤ 600002) (hs : slots + 16 * (t2.2 - t.2) + 6 ≤ 7302232)
    (kk : ∀ (ad' : zA) (H' : Heap) (locs' : List Loc) (f' : Nat → Int64) (ls' : Array Slot), lSt D ty A s cL oa X M ad' t2 H' locs' f' → lv_has ls' 7 [(0, .ref b), (1, .ref X), (2, .ref M), (3, .ref oa), (4, .int (nI j))] → W p l e room_1 s m0 args below meth c H' locs' (cells + (t2.2 - t.2) + 1) (slots + 16 * (t2.2 - t.2) + 6) Q (F0 m0 774 ls' [])) : W p l e room_1 s m0 args below meth c H locs cells slots Q (F0 m0 700 ls []) := by
  have hx := C.1.1
  have hb := C.1.2.1
  obtain ⟨N1, N2, v, t1, z1, z2⟩ := hop
  have m1 := zrun_md _ _ _ _ _ z1
  have m2 := zrun_md _ _ _ _ _ z2
  have m1 : t.2 ≤ t1.2 := m1
  have m2 : t1.2 ≤ t2.2 := m2
  refine lv_aload_n hx hb ld_700 rfl (lv_at hl 1 rfl) ?_
  refine lv_aload_n hx hb ld_701 rfl (lv_at hl 0 rfl) ?_
  refine lv_iload hx hb ld_702 (lv_at hl 4 rfl) ?_
  refine lv_iconst (v := nI 1) hx hb ld_704 (by decide) ?_
  refine lsld C hX hbl hbA h.1.2.2 (by omega) hL ld_705 ld_706 ?_
  refine lv_aload_n hx hb ld_707 rfl (lv_at hl 0 rfl) ?_
  refine lv_iload hx hb ld_708 (lv_at hl 4 rfl) ?_
  refine lv_iconst (v := nI 2) hx hb ld_710 (by decide) ?_
  refine lsld C hX hbl hbA h.1.2.2 (by omega) hL ld_711 ld_712 ?_
  refine lcZ (N := N1) (n := 100) (m' := 14) (k0 := 0) (as' := [.inl (xs (j + 1)), .inl (xs (j + 2))]) (rest := []) C h (Or.inl ⟨rfl, rfl⟩) (by decide) (zhas_mem (by decide +kernel)) (by decide +kernel) (by decide +kernel) (by show 3 = znar 14; decide +kernel) (fun v hv => by simp only [List.mem_cons, List.not_mem_nil, or_false] at hv; rcases hv with rfl | rfl <;> rfl) z1 (by decide +kernel) (by decide +kernel) hl.1 (Nat.zero_le _) ld_713 (by show cells + _ ≤ 600002; omega) (by show slots + _ ≤ 7302232; omega) fun ad1 H1 locs1 h1 => ?_
  refine lv_aload_n hx hb ld_716 rfl (lv_at hl 2 rfl) ?_
  refine lv_aload_n hx hb ld_717 rfl (lv_at hl 0 rfl) ?_
  refine lv_iload hx hb ld_718 (lv_at hl 4 rfl) ?_
  refine lv_iconst (v := nI 1) hx hb ld_720 (by decide) ?_
  refine lsld C hX hbl hbA h1.1.2.2 (by omega) hL ld_721 ld_722 ?_
  refine lv_aload_n hx hb ld_723 rfl (lv_at hl 0 rfl) ?_
  refine lv_iload hx hb ld_724 (lv_at hl 4 rfl) ?_
  refine lv_iconst (v := nI 2) hx hb ld_726 (by decide) ?_
  refine lsld C hX hbl hbA h1.1.2.2 (by omega) hL ld_727 ld_728 ?_
  refine lcZ (N := N2) (n := 103) (m' := 121) (k0 := 16) (as' := [.inl (xs (j + 1)), .inl (xs (j + 2))]) (rest := [.int v]) C h1 (Or.inr ⟨rfl, rfl⟩) (by decide) (zhas_mem (by decide +kernel)) (by decide +kernel) (by decide +kernel) (by show 3 = znar 121; decide +kernel) (fun v hv => by simp only [List.mem_cons, List.not_mem_nil, or_false] at hv; rcases hv with rfl | rfl <;> rfl) z2 (by decide +kernel) (by decide +kernel) hl.1 (Nat.le_of_ble_eq_true rfl) ld_729 (by show cells + _ + _ ≤ 600002; omega) (by show slots + _ + _ ≤ 7302232; omega) fun ad2 H2 locs2 h2 => ?_
  refine lv_icmp_eq (tgt := 774) hx hb ld_732 (by decide) (fun _ => ?_) (fun hne => absurd rfl hne)
  refine W.widen (k := cells + (t2.2 - t.2) + 1) (n := slots + 16 * (t2.2 - t.2) + 6) (by omega) (by omega) ?_
  exact kk ad2 H2 locs2 f ls h2 hl
set_option maxRecDepth 100000 in
theorem lop15 (C : lCx p l s m0 args c D ty A code 7) (hr : meth.sig.returnType = ret) (hn : lNn s) (hKL : va_K D zcl [(cL, .long)] s) (hAo : A oa) (hX : va_X b L xs s s.heap) (hbl : b < s.heap.size) (hbA : ¬ A b) (hL : L ≤ 2048) (hj : j + 3 < L) (h : lSt D ty A s cL oa X M ad t H locs f) (hl : lv_has ls 7 [(0, .ref b), (1, .ref X), (2, .ref M), (3, .ref oa), (4, .int (nI j))]) (hop : lOpB 15 122 [.inl (xs (j + 1)), .inl (xs (j + 2))] t t2) (hc : cells + (t2.2 - t.2) + 1 ≤ 600002) (hs : slots + 16 * (t2.2 - t.2) + 6 ≤ 7302232)
    (kk : ∀ (ad' : zA) (H' : Heap) (locs' : List Loc) (f' : Nat → Int64) (ls' : Array Slot), lSt D ty A s cL oa X M ad' t2 H' locs' f' → lv_has ls' 7 [(0, .ref b), (1, .ref X), (2, .ref M), (3, .ref oa), (4, .int (nI j))] → W p l e room_1 s m0 args below meth c H' locs' (cells + (t2.2 - t.2) + 1) (slots + 16 * (t2.2 - t.2) + 6) Q (F0 m0 774 ls' [])) : W p l e room_1 s m0 args below meth c H locs cells slots Q (F0 m0 737 ls []) := by
  have hx := C.1.1
  have hb := C.1.2.1
  obtain ⟨N1, N2, v, t1, z1, z2⟩ := hop
  have m1 := zrun_md _ _ _ _ _ z1
  have m2 := zrun_md _ _ _ _ _ z2
  have m1 : t.2 ≤ t1.2 := m1
  have m2 : t1.2 ≤ t2.2 := m2
  refine lv_aload_n hx hb ld_737 rfl (lv_at hl 1 rfl) ?_
  refine lv_aload_n hx hb ld_738 rfl (lv_at hl 0 rfl) ?_
  refine lv_iload hx hb ld_739 (lv_at hl 4 rfl) ?_
  refine lv_iconst (v := nI 1) hx hb ld_741 (by decide) ?_
  refine lsld C hX hbl hbA h.1.2.2 (by omega) hL ld_742 ld_743 ?_
  refine lv_aload_n hx hb ld_744 rfl (lv_at hl 0 rfl) ?_
  refine lv_iload hx hb ld_745 (lv_at hl 4 rfl) ?_
  refine lv_iconst (v := nI 2) hx hb ld_747 (by decide) ?_
  refine lsld C hX hbl hbA h.1.2.2 (by omega) hL ld_748 ld_749 ?_
  refine lcZ (N := N1) (n := 104) (m' := 15) (k0 := 0) (as' := [.inl (xs (j + 1)), .inl (xs (j + 2))]) (rest := []) C h (Or.inl ⟨rfl, rfl⟩) (by decide) (zhas_mem (by decide +kernel)) (by decide +kernel) (by decide +kernel) (by show 3 = znar 15; decide +kernel) (fun v hv => by simp only [List.mem_cons, List.not_mem_nil, or_false] at hv; rcases hv with rfl | rfl <;> rfl) z1 (by decide +kernel) (by decide +kernel) hl.1 (Nat.zero_le _) ld_750 (by show cells + _ ≤ 600002; omega) (by show slots + _ ≤ 7302232; omega) fun ad1 H1 locs1 h1 => ?_
  refine lv_aload_n hx hb ld_753 rfl (lv_at hl 2 rfl) ?_
  refine lv_aload_n hx hb ld_754 rfl (lv_at hl 0 rfl) ?_
  refine lv_iload hx hb ld_755 (lv_at hl 4 rfl) ?_
  refine lv_iconst (v := nI 1) hx hb ld_757 (by decide) ?_
  refine lsld C hX hbl hbA h1.1.2.2 (by omega) hL ld_758 ld_759 ?_
  refine lv_aload_n hx hb ld_760 rfl (lv_at hl 0 rfl) ?_
  refine lv_iload hx hb ld_761 (lv_at hl 4 rfl) ?_
  refine lv_iconst (v := nI 2) hx hb ld_763 (by decide) ?_
  refine lsld C hX hbl hbA h1.1.2.2 (by omega) hL ld_764 ld_765 ?_
  refine lcZ (N := N2) (n := 107) (m' := 122) (k0 := 16) (as' := [.inl (xs (j + 1)), .inl (xs (j + 2))]) (rest := [.int v]) C h1 (Or.inr ⟨rfl, rfl⟩) (by decide) (zhas_mem (by decide +kernel)) (by decide +kernel) (by decide +kernel) (by show 3 = znar 122; decide +kernel) (fun v hv => by simp only [List.mem_cons, List.not_mem_nil, or_false] at hv; rcases hv with rfl | rfl <;> rfl) z2 (by decide +kernel) (by decide +kernel) hl.1 (Nat.le_of_ble_eq_true rfl) ld_766 (by show cells + _ + _ ≤ 600002; omega) (by show slots + _ + _ ≤ 7302232; omega) fun ad2 H2 locs2 h2 => ?_
  refine lv_icmp_eq (tgt := 774) hx hb ld_769 (by decide) (fun _ => ?_) (fun hne => absurd rfl hne)
  refine W.widen (k := cells + (t2.2 - t.2) + 1) (n := slots + 16 * (t2.2 - t.2) + 6) (by omega) (by omega) ?_
  exact kk ad2 H2 locs2 f ls h2 hl
end LOPS
