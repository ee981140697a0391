/-! Fields, arrays, returns. -/
theorem zsum (ad : zA) : ∀ st : List zV, ((st.map (zcv ad)).map fun v => v.category).sum = st.length
  | [] => rfl
  | v :: r => by
    simp only [List.map_cons, List.sum_cons, List.length_cons, zsum ad r, zcv_cat]
    omega
theorem zcl_ty {c : Nat} {r : vw_C} (h : zcl[c]? = some r) : (∃ ty0 : Nat → FieldType, ∀ k, k < r.2.2 → parseFieldDescriptor (r.2.1 k).2.2.1 = some (ty0 k)) ∧ ∀ a, a < r.2.2 → ∀ b, b < r.2.2 → a ≠ b → (r.2.1 a).2.1 ≠ (r.2.1 b).2.1 := by
  match c, h with
  | 0, h => cases h; exact ⟨⟨zty0, ztyo0⟩, znm0⟩
  | 1, h => cases h; exact ⟨⟨zty1, ztyo1⟩, znm1⟩
  | 2, h => cases h; exact ⟨⟨zty2, ztyo2⟩, znm2⟩
  | 3, h => cases h; exact ⟨⟨zty3, ztyo3⟩, znm3⟩
  | 4, h => cases h; exact ⟨⟨zty4, ztyo4⟩, znm4⟩
  | 5, h => cases h; exact ⟨⟨zty5, ztyo5⟩, znm5⟩
  | 6, h => cases h; exact ⟨⟨zty6, ztyo6⟩, znm6⟩
  | 7, h => cases h; exact ⟨⟨zty7, ztyo7⟩, znm7⟩
theorem zcls_ok {k c : Nat} (h : zcls k c = true) : ∃ fs, zkind k = .inl (c, fs) := by
  unfold zcls at h
  cases hz : zkind k with
  | inl q =>
    rw [hz] at h
    obtain ⟨c', fs⟩ := q
    have e := Nat.eq_of_beq_eq_true h
    exact ⟨fs, by rw [e]⟩
  | inr q => rw [hz] at h; cases h
theorem zget_ok {ad : zA} {k c i f : Nat} {t : zT} {v : zV} (hc : zcls k c = true) (h : zget k i f t = some v) : ∃ fs e, zkind k = .inl (c, fs) ∧ fs[f]? = some e ∧ zcv ad v = zfv ad t.1 k i e f ∧ (zok t.2 k i = true → zvok t.2 v = true) := by
  obtain ⟨fs, hz⟩ := zcls_ok hc
  unfold zget at h
  rw [hz] at h
  dsimp only at h
  cases he : fs[f]? with
  | none => rw [he] at h; cases h
  | some e =>
    rw [he] at h
    refine ⟨fs, e, hz, he, ?_⟩
    match e, h, he with
    | 0, h, _ => cases h; exact ⟨rfl, fun _ => rfl⟩
    | 1, h, _ => cases h; exact ⟨rfl, fun _ => rfl⟩
    | q + 2, h, he =>
      cases h
      refine ⟨rfl, fun hk => ?_⟩
      obtain ⟨-, r, -, -, -, hf⟩ := zkind_o hz
      obtain ⟨q1, q2, q3, q4⟩ := hf f (q + 2) he
      show zok t.2 q i = true
      unfold zok at hk ⊢
      rw [if_neg q3] at hk
      rw [if_neg q2, q4]
      exact hk
theorem zWL.da {D : va_G} {ty : Nat → ClassId} {ad : zA} {t : zT} {H : Heap} {L : List (Nat × Nat)} {A : Nat → Prop} (h : zWL D ty ad t H L) (hA : ∀ k i, zok t.2 k i = true → A (ad k i)) : va_D A (zl ty ad t L) := by
  refine ⟨h.2.2.2.1, fun q0 x hx => ?_⟩
  obtain ⟨k, i, h1, h2⟩ := zl_inv hx
  rw [h2]
  exact hA k i (h.2.1 (k, i) (List.mem_of_getElem? h1))
section ZR2
variable {p : Program} {l : Launch} {e : Env} {R : Room} {s : State} {m0 : MethodId} {args : Array Value} {below : List Frame} {meth : Method} {c : Code} {D : va_G} {ty : Nat → ClassId} {A : Nat → Prop} {m pc : Nat} {ls : List (Option zV)} {st : List zV} {t t' : zT} {o : zO}
theorem zs_get (C : zCx p l e R s m0 args meth c D ty A m) (ho : zown m < 8) {n ci f k i : Nat} {v : zV} (hz : zfld (zown m) n = some (ci, f)) (hcl : zcls k ci = true) (hg : zget k i f t = some v) (hd : decode (zbb m) pc = .ok (.getfield n, 3))
    (kk : zOK p l e R s m0 args below meth c D ty A m (pc + 3) ls (v :: st) t o t') : zOK p l e R s m0 args below meth c D ty A m pc ls (.inr (some (k, i)) :: st) t o t' := by
  intro ad H locs cells slots lsA h hc hs
  obtain ⟨L, hL⟩ := h.2.2.1
  have hv : zok t.2 k i = true := zall_h h.2.1
  obtain ⟨q0, hq⟩ := hL.pos hv
  obtain ⟨r, hr, hfl, hdecl, hlink⟩ := zfld_ok ho hz
  obtain ⟨fs, e', hkind, hfe, hval, hvok⟩ := zget_ok (ad := ad) hcl hg
  have he : (zl ty ad t L)[q0]? = some (ad k i, .inr (ci, zenF ad t.1 k i fs)) := by rw [zl_get hq, zenc_o hkind]
  exact va_get C.1.1 C.1.2.1 (own := zRn (zown m)) (ref := r.1) (C := r.1) (T := r.2.1) (N := r.2.2) (ci := ci) (Ts := zWS) C.2.1.2.1 (zcl_in hr) C.2.1.1 C.2.1.2.2 hL.2.2.1 q0 he hr f hfl (C.2.1.2.1 _ hlink) (fun x hx => by rw [hdecl] at hx; exact hx) (v := zcv ad v) (by rw [hval]; exact zenF_get hfe) hd
    (kk ad H locs cells slots lsA (h.st (zall_c (hvok hv) (zall_t h.2.1))) hc hs)
theorem zfit_b {v : Int32} (h : v = 0 ∨ v = 1) : narrow .boolean (.int v) = .int v ∧ fits .boolean (.int v) = true := by
  rcases h with rfl | rfl
  · exact ⟨by decide +kernel, by decide +kernel⟩
  · exact ⟨by decide +kernel, by decide +kernel⟩
theorem zs_put (C : zCx p l e R s m0 args meth c D ty A m) (ho : zown m < 8) {n ci f k i e0 : Nat} {fs : List Nat} {v : Int32} (hz : zfld (zown m) n = some (ci, f)) (hkind : zkind k = .inl (ci, fs)) (hfe : fs[f]? = some e0) (he0 : e0 = 0 ∨ (e0 = 1 ∧ (v = 0 ∨ v = 1))) (hd : decode (zbb m) pc = .ok (.putfield n, 3))
    (kk : zOK p l e R s m0 args below meth c D ty A m (pc + 3) ls st (zu t.1 (64 * k + f) i 0 v, t.2) o t') : zOK p l e R s m0 args below meth c D ty A m pc ls (.inl v :: .inr (some (k, i)) :: st) t o t' := by
  intro ad H locs cells slots lsA h hc hs
  obtain ⟨L, hL⟩ := h.2.2.1
  have hv : zok t.2 k i = true := zall_h (zall_t h.2.1)
  obtain ⟨q0, hq⟩ := hL.pos hv
  obtain ⟨r, hr, hfl, hdecl, hlink⟩ := zfld_ok ho hz
  have he : (zl ty ad t L)[q0]? = some (ad k i, .inr (ci, zenF ad t.1 k i fs)) := by rw [zl_get hq, zenc_o hkind]
  obtain ⟨-, r', hr', hlen, hl60, hfs⟩ := zkind_o hkind
  cases hr.symm.trans hr'
  obtain ⟨⟨ty0, hty⟩, hnm⟩ := zcl_ty hr
  have hff := hfs f e0 hfe
  have hf60 : f < 60 := by omega
  have hty1 : ∃ tt, parseFieldDescriptor (r.2.1 f).2.2.1 = some tt ∧ narrow tt (.int v) = .int v ∧ fits tt (.int v) = true ∧ (r.2.1 f).2.2.2 = false ∧ e0 < 2 := by
    rcases he0 with rfl | ⟨rfl, hb⟩
    · exact ⟨.int, hff.1, rfl, rfl, hff.2, by decide⟩
    · exact ⟨.boolean, hff.1, (zfit_b hb).1, (zfit_b hb).2, hff.2, by decide⟩
  obtain ⟨tt, hp1, hp2, hp3, hp4, he2⟩ := hty1
  refine va_put C.1.1 C.1.2.1 (own := zRn (zown m)) (ref := r.1) (C := r.1) (T := r.2.1) (N := r.2.2) (ci := ci) (Ts := zWS) C.2.1.2.1 (zcl_in hr) ty0 hty hnm C.2.1.1 C.2.1.2.2 hL.2.2.1 (hL.da h.2.2.2.1) h.2.2.2.2 q0 he hr f hfl (C.2.1.2.1 _ hlink) (fun x hx => by rw [hdecl] at hx; exact hx) hp4 (v := .int v) hp1 hp2 hp3 (by rw [zenF_len]; omega) hd fun H1 locs1 hP1 hD1 hS1 => ?_
  rw [zenF_set hfe he2, ← zenc_o (ty := ty) (t := (zu t.1 (64 * k + f) i 0 v, t.2)) hkind] at hP1 hD1
  exact kk ad H1 locs1 cells slots lsA ⟨h.1, zall_t (zall_t h.2.1), hL.wr hq hf60 hP1 hD1, h.2.2.2.1, hS1⟩ hc hs
theorem zs_ld (C : zCx p l e R s m0 args meth c D ty A m) {i : Instr} {el k j n a : Nat} {x : Int32} (hk : zkind k = .inr (a, el, n)) (hi : (i = .iaload ∧ el = 0) ∨ (i = .baload ∧ el = 1) ∨ (i = .saload ∧ el = 2) ∨ (i = .baload ∧ el = 3)) (hin : zin x n = true) (hd : decode (zbb m) pc = .ok (i, 1))
    (kk : zOK p l e R s m0 args below meth c D ty A m (pc + 1) ls (.inl (t.1 (64 * k) j x.toNatClampNeg) :: st) t o t') : zOK p l e R s m0 args below meth c D ty A m pc ls (.inl x :: .inr (some (k, j)) :: st) t o t' := by
  intro ad H locs cells slots lsA h hc hs
  obtain ⟨L, hL⟩ := h.2.2.1
  have hv : zok t.2 k j = true := zall_h (zall_t h.2.1)
  obtain ⟨q0, hq⟩ := hL.pos hv
  obtain ⟨-, -, ha⟩ := zkind_a hk (zok_lt hv)
  have k2 := kk ad H locs cells slots lsA (h.st (zall_c rfl (zall_t (zall_t h.2.1)))) hc hs
  rcases hi with ⟨rfl, rfl⟩ | ⟨rfl, rfl⟩ | ⟨rfl, rfl⟩ | ⟨rfl, rfl⟩
  · have ha' : a = 0 := ha
    subst ha'
    exact va_iald C.1.1 C.1.2.1 C.2.1.2.2 hL.2.2.1 q0 0 (by rw [zl_get hq, zenc_a hk]; rfl) rfl (zin_ok hin) hd k2
  · have ha' : a = 1 := ha
    subst ha'
    exact va_bald C.1.1 C.1.2.1 C.2.1.2.2 hL.2.2.1 q0 1 (by rw [zl_get hq, zenc_a hk]; rfl) rfl (zin_ok hin) hd k2
  · have ha' : a = 2 := ha
    subst ha'
    exact va_sald C.1.1 C.1.2.1 C.2.1.2.2 hL.2.2.1 q0 2 (by rw [zl_get hq, zenc_a hk]; rfl) rfl (zin_ok hin) hd k2
  · have ha' : a = 3 := ha
    subst ha'
    exact va_zald C.1.1 C.1.2.1 C.2.1.2.2 hL.2.2.1 q0 3 (by rw [zl_get hq, zenc_a hk]; rfl) rfl (zin_ok hin) hd k2
theorem zupd (S : zS) (k j q : Nat) (v : Int32) : upd (fun x => S (64 * k) j x) q v = fun x => zu S (64 * k) j q v (64 * k) j x := by
  funext x
  by_cases hx : x = q
  · subst hx
    simp [upd, zu]
  · simp [upd, zu, hx]
def znr (el : Nat) (v : Int32) : Int32 := match el with
  | 0 => v
  | 1 => vp_nar .byte v
  | 2 => vp_nar .short v
  | _ => vp_nar .boolean v
theorem zs_st (C : zCx p l e R s m0 args meth c D ty A m) {i : Instr} {el k j n a : Nat} {x v : Int32} (hk : zkind k = .inr (a, el, n)) (hi : (i = .iastore ∧ el = 0) ∨ (i = .bastore ∧ el = 1) ∨ (i = .sastore ∧ el = 2) ∨ (i = .bastore ∧ el = 3)) (hin : zin x n = true) (hd : decode (zbb m) pc = .ok (i, 1))
    (kk : zOK p l e R s m0 args below meth c D ty A m (pc + 1) ls st (zu t.1 (64 * k) j x.toNatClampNeg (znr el v), t.2) o t') : zOK p l e R s m0 args below meth c D ty A m pc ls (.inl v :: .inl x :: .inr (some (k, j)) :: st) t o t' := by
  intro ad H locs cells slots lsA h hc hs
  obtain ⟨L, hL⟩ := h.2.2.1
  have hv : zok t.2 k j = true := zall_h (zall_t (zall_t h.2.1))
  obtain ⟨q0, hq⟩ := hL.pos hv
  obtain ⟨-, -, ha⟩ := zkind_a hk (zok_lt hv)
  have hel : el < 4 := by rcases hi with ⟨-, rfl⟩ | ⟨-, rfl⟩ | ⟨-, rfl⟩ | ⟨-, rfl⟩ <;> decide
  have key : ∀ (H1 : Heap) (locs1 : List Loc), va_P D zcl ((zl ty ad t L).set q0 (ad k j, .inl (ty a, n, .inl (upd (fun y => t.1 (64 * k) j y) x.toNatClampNeg (znr el v))))) H1 → va_D A ((zl ty ad t L).set q0 (ad k j, .inl (ty a, n, .inl (upd (fun y => t.1 (64 * k) j y) x.toNatClampNeg (znr el v))))) → va_S A s.heap H1 locs1 →
      W p l e R s m0 args below meth c H1 locs1 cells slots (zEnd D ty A s below ad t.2 o t' (cells + (t'.2 - t.2) + zth o) (slots + 16 * (t'.2 - t.2) + 6 * zth o)) (F0 m0 (pc + 1) lsA (st.map (zcv ad))) := by
    intro H1 locs1 hP1 hD1 hS1
    have e1 : ((ad k j, .inl (ty a, n, .inl (upd (fun y => t.1 (64 * k) j y) x.toNatClampNeg (znr el v)))) : Nat × va_E) = (ad k j, zenc ty ad (zu t.1 (64 * k + 0) j x.toNatClampNeg (znr el v), t.2) k j) := by
      rw [zenc_a hk, zenA_lt hel, zupd]
      rfl
    rw [e1] at hP1 hD1
    exact kk ad H1 locs1 cells slots lsA ⟨h.1, zall_t (zall_t (zall_t h.2.1)), hL.wr hq (by decide) hP1 hD1, h.2.2.2.1, hS1⟩ hc hs
  rcases hi with ⟨rfl, rfl⟩ | ⟨rfl, rfl⟩ | ⟨rfl, rfl⟩ | ⟨rfl, rfl⟩
  · have ha' : a = 0 := ha
    subst ha'
    exact va_iast C.1.1 C.1.2.1 C.2.1.2.2 hL.2.2.1 (hL.da h.2.2.2.1) h.2.2.2.2 q0 0 (by rw [zl_get hq, zenc_a hk]; rfl) rfl (zin_ok hin) hd key
  · have ha' : a = 1 := ha
    subst ha'
    exact va_bast C.1.1 C.1.2.1 C.2.1.2.2 hL.2.2.1 (hL.da h.2.2.2.1) h.2.2.2.2 q0 1 (by rw [zl_get hq, zenc_a hk]; rfl) rfl (zin_ok hin) hd key
  · have ha' : a = 2 := ha
    subst ha'
    exact va_sast C.1.1 C.1.2.1 C.2.1.2.2 hL.2.2.1 (hL.da h.2.2.2.1) h.2.2.2.2 q0 2 (by rw [zl_get hq, zenc_a hk]; rfl) rfl (zin_ok hin) hd key
  · have ha' : a = 3 := ha
    subst ha'
    exact va_zast C.1.1 C.1.2.1 C.2.1.2.2 hL.2.2.1 (hL.da h.2.2.2.1) h.2.2.2.2 q0 3 (by rw [zl_get hq, zenc_a hk]; rfl) rfl (zin_ok hin) hd key
theorem zel_cv (ad : zA) (md q j : Nat) : va_rf (zrefs ad md q j) = zcv ad (.inr (zel md q j)) := by
  unfold zrefs zel
  by_cases h : zok md q j = true
  · rw [if_pos h]
    rfl
  · rw [if_neg h]
    rfl
theorem zel_ok (md q j : Nat) : zvok md (.inr (zel md q j)) = true := by
  unfold zel
  by_cases h : zok md q j = true
  · rw [if_pos h]
    exact h
  · rw [if_neg h]
    rfl
theorem zs_ald (C : zCx p l e R s m0 args meth c D ty A m) {q k j n a : Nat} {x : Int32} (hk : zkind k = .inr (a, q + 4, n)) (hin : zin x n = true) (hd : decode (zbb m) pc = .ok (.aaload, 1))
    (kk : zOK p l e R s m0 args below meth c D ty A m (pc + 1) ls (.inr (zel t.2 q x.toNatClampNeg) :: st) t o t') : zOK p l e R s m0 args below meth c D ty A m pc ls (.inl x :: .inr (some (k, j)) :: st) t o t' := by
  intro ad H locs cells slots lsA h hc hs
  obtain ⟨L, hL⟩ := h.2.2.1
  have hv : zok t.2 k j = true := zall_h (zall_t h.2.1)
  obtain ⟨q0, hq⟩ := hL.pos hv
  obtain ⟨-, -, ha⟩ := zkind_a hk (zok_lt hv)
  have k2 := kk ad H locs cells slots lsA (h.st (zall_c (zel_ok t.2 q x.toNatClampNeg) (zall_t (zall_t h.2.1)))) hc hs
  have hcell : H[ad k j]? = some (arrV (ty a) n (fun y => va_rf (zrefs ad t.2 q y))) := by
    have h1 := hL.2.2.1 q0 _ (zl_get hq)
    rw [zenc_a hk] at h1
    exact h1
  have hx := zin_ok hin
  have hlt : x.toNatClampNeg < n := Nat.not_le.mp fun z => hx (Or.inr z)
  have hty : ∃ tt, (ztys ty)[a]? = some (ty a, tt) ∧ tt.isReference = true := by
    rcases ha with ⟨rfl, -, -⟩ | ⟨rfl, -⟩ | ⟨rfl, -⟩
    · exact ⟨_, rfl, rfl⟩
    · exact ⟨_, rfl, rfl⟩
    · exact ⟨_, rfl, rfl⟩
  obtain ⟨tt, ht1, ht2⟩ := hty
  exact W.aald (v := va_rf (zrefs ad t.2 q x.toNatClampNeg)) (ty := tt) C.1.1 C.1.2.1 hcell ((C.2.1.2.2.2 a _ ht1).1 n (fun y => va_rf (zrefs ad t.2 q y))) ht2 (fun z => by cases z) (by rw [arrV_size]; exact hx) (by rw [arrV_read _ _ hlt]) rfl rfl hd (by rw [zel_cv]; exact k2)
theorem zs_max (C : zCx p l e R s m0 args meth c D ty A m) (ho : zown m < 8) {n k : Nat} {x y : Int32} (hz : zcal (zown m) n = some (999, k)) (hf : 1 ≤ zFr m) (hw : 21 ≤ zLo m) (hr : st.length ≤ 8) (hd : decode (zbb m) pc = .ok (.invokestatic n, 3))
    (kk : zOK p l e R s m0 args below meth c D ty A m (pc + 3) ls (.inl (if x < y then y else x) :: st) t o t') : zOK p l e R s m0 args below meth c D ty A m pc ls (.inl y :: .inl x :: st) t o t' := by
  intro ad H locs cells slots lsA h hc hs
  have hsum := zsum ad st
  have hfr := C.2.2.1.2.1
  have hlo := C.2.2.1.2.2.1
  exact va_mmax C.1.1 C.1.2.1 (by rw [C.1.2.2.1, h.1.2.1]) C.2.1.1 (C.2.1.2.1 _ (zcal_max ho hz)) (C.2.1.2.1 _ zmax_ok.1) (C.2.1.2.1 _ zmax_ok.2.1) (C.2.1.2.1 _ zmax_ok.2.2) (by omega) (by rw [hsum]; omega) (by omega) (by omega) hd
    (kk ad H locs cells slots lsA (h.st (zall_c rfl (zall_t (zall_t h.2.1)))) hc hs)
theorem zW_mono {H : Heap} {locs : List Loc} {cells slots : Nat} {Q Q' : State → Prop} {g : JFrame} (h : W p l e R s m0 args below meth c H locs cells slots Q g) (hq : ∀ u, Q u → Q' u) : W p l e R s m0 args below meth c H locs cells slots Q' g := by
  intro T hT X
  obtain ⟨u, a, b⟩ := h T hT X
  exact ⟨u, a, hq u b⟩
theorem zend_of {below : List Frame} {v : Option zV} {ad : zA} {cells slots : Nat} {u : State} (h : MQ below (fun _ st oc u => zQ D ty A ad t.2 (.inl v) t st oc u) args s cells slots A u) : zEnd D ty A s below ad t.2 (.inl v) t (cells + (t.2 - t.2) + zth (.inl v)) (slots + 16 * (t.2 - t.2) + 6 * zth (.inl v)) u := by
  obtain ⟨oc, h1, h2, h3, L, h4, h5⟩ := h
  refine ⟨oc, h1, h2, h3, L, ?_, h5⟩
  have e1 : cells + (t.2 - t.2) + zth (.inl v) = cells := by simp [zth]
  have e2 : slots + 16 * (t.2 - t.2) + 6 * zth (.inl v) = slots := by simp [zth]
  rw [e1, e2]
  exact ⟨h4.2.1, h4.2.2⟩
theorem zs_ret {x : Int32} (C : zCx p l e R s m0 args meth c D ty A m) (hr : zrt m = some .int ∨ (zrt m = some .boolean ∧ (x = 0 ∨ x = 1))) (hd : decode (zbb m) pc = .ok (.ireturn, 1)) : zOK p l e R s m0 args below meth c D ty A m pc ls [.inl x] t (.inl (some (.inl x))) t := by
  intro ad H locs cells slots lsA h hc hs
  have hq : ∀ u : State, u.heap = H → s.WarmedH u.vm → zQ D ty A ad t.2 (.inl (some (.inl x))) t s (.returned (some (.int x))) u := fun u hu _ => ⟨⟨ad, zExt.refl _ _, ⟨rfl, rfl⟩, by rw [hu]; exact h.2.2.1, h.2.2.2.1⟩, h.2.2.2.2.F hu⟩
  rcases hr with hr | ⟨hr, hb⟩
  · exact zW_mono (W.iret (Qc := fun _ st oc u => zQ D ty A ad t.2 (.inl (some (.inl x))) t st oc u) C.1.1 C.1.2.1 (C.1.2.2.2.1.trans hr) hq h.2.2.2.2.2.2 hd C.1.2.2.2.2) fun u hu => zend_of hu
  · exact zW_mono (W.zret (Qc := fun _ st oc u => zQ D ty A ad t.2 (.inl (some (.inl x))) t st oc u) C.1.1 C.1.2.1 (C.1.2.2.2.1.trans hr) (zfit_b hb).1 hq h.2.2.2.2.2.2 hd C.1.2.2.2.2) fun u hu => zend_of hu
theorem zs_vret (C : zCx p l e R s m0 args meth c D ty A m) (hr : zrt m = none) (hd : decode (zbb m) pc = .ok (.return_, 1)) : zOK p l e R s m0 args below meth c D ty A m pc ls [] t (.inl none) t := by
  intro ad H locs cells slots lsA h hc hs
  have hq : ∀ u : State, u.heap = H → s.WarmedH u.vm → zQ D ty A ad t.2 (.inl none) t s (.returned none) u := fun u hu _ => ⟨⟨ad, zExt.refl _ _, rfl, by rw [hu]; exact h.2.2.1, h.2.2.2.1⟩, h.2.2.2.2.F hu⟩
  exact zW_mono (W.vret (Qc := fun _ st oc u => zQ D ty A ad t.2 (.inl none) t st oc u) C.1.1 C.1.2.1 (C.1.2.2.2.1.trans hr) hq h.2.2.2.2.2.2 hd C.1.2.2.2.2) fun u hu => zend_of hu
theorem zs_aret {r : Nat × Nat} {rt : FieldType} (C : zCx p l e R s m0 args meth c D ty A m) (hr : zrt m = some rt) (hrt : (∃ n, rt = .object n) ∨ ∃ y, rt = .array y) (hd : decode (zbb m) pc = .ok (.areturn, 1)) : zOK p l e R s m0 args below meth c D ty A m pc ls [.inr (some r)] t (.inl (some (.inr (some r)))) t := by
  intro ad H locs cells slots lsA h hc hs
  have hq : ∀ u : State, u.heap = H → s.WarmedH u.vm → zQ D ty A ad t.2 (.inl (some (.inr (some r)))) t s (.returned (some (zcv ad (.inr (some r))))) u := fun u hu _ => ⟨⟨ad, zExt.refl _ _, ⟨rfl, zall_h h.2.1⟩, by rw [hu]; exact h.2.2.1, h.2.2.2.1⟩, h.2.2.2.2.F hu⟩
  exact zW_mono (W.aret (Qc := fun _ st oc u => zQ D ty A ad t.2 (.inl (some (.inr (some r)))) t st oc u) C.1.1 C.1.2.1 (C.1.2.2.2.1.trans hr) hrt (Or.inr ⟨_, rfl⟩) hq h.2.2.2.2.2.2 hd C.1.2.2.2.2) fun u hu => zend_of hu
end ZR2
