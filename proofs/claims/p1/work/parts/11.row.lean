/-! The log's new row: new, dup, its constructor, aastore. -/
def zadd (ad : zA) (md q : Nat) : zA := fun k i => if k = 3 ∧ i = md + 1 then q else ad k i
theorem zadd_ext (ad : zA) (md q : Nat) : zExt ad (zadd ad md q) md := by
  intro k i hk
  unfold zadd
  rw [if_neg]
  intro h
  rw [h.1, h.2] at hk
  unfold zok at hk
  rw [if_pos rfl] at hk
  simp only [decide_eq_true_eq] at hk
  omega
theorem zadd_new (ad : zA) (md q : Nat) : zadd ad md q 3 (md + 1) = q := by simp [zadd]
theorem zok_new {md k i : Nat} (h : zok (md + 1) k i = true) : zok md k i = true ∨ (k = 3 ∧ i = md + 1) := by
  unfold zok at h ⊢
  by_cases h3 : k = 3
  · rw [if_pos h3] at h ⊢
    simp only [decide_eq_true_eq] at h ⊢
    omega
  · rw [if_neg h3] at h ⊢
    exact Or.inl h
theorem zok_ne3 {md md' k i : Nat} (h3 : k ≠ 3) : zok md k i = zok md' k i := by
  unfold zok
  rw [if_neg h3, if_neg h3]
theorem zrefs_ne3 {ad : zA} {md q k : Nat} (h3 : k ≠ 3) : zrefs (zadd ad md q) (md + 1) k = zrefs ad md k := by
  funext j
  unfold zrefs zel
  rw [zok_ne3 (md := md + 1) (md' := md) h3]
  by_cases h : zok md k j = true
  · rw [if_pos h]
    show some (zadd ad md q k j) = some (ad k j)
    rw [zadd_ext ad md q k j h]
  · rw [if_neg h]
    rfl
theorem zrefs_3 {ad : zA} {md q : Nat} : zrefs (zadd ad md q) (md + 1) 3 = va_up (zrefs ad md 3) (md + 1) (some q) := by
  funext j
  by_cases hj : j = md + 1
  · subst hj
    rw [va_up_self]
    unfold zrefs zel
    rw [if_pos (by unfold zok; simp)]
    show some (zadd ad md q 3 (md + 1)) = _
    rw [zadd_new]
  · rw [va_up_ne _ _ hj]
    unfold zrefs zel
    by_cases h : zok md 3 j = true
    · rw [if_pos h, if_pos (zok_mono (Nat.le_succ md) h)]
      show some (zadd ad md q 3 j) = some (ad 3 j)
      rw [zadd_ext ad md q 3 j h]
    · rw [if_neg h, if_neg]
      · rfl
      · intro h2
        rcases zok_new h2 with h2 | h2
        · exact h h2
        · exact hj h2.2
theorem zenc_row {ty : Nat → ClassId} {ad : zA} {t : zT} {k i q : Nat} (hk : zok t.2 k i = true) (hne : ¬ (k = 2 ∧ i = 0)) : zenc ty (zadd ad t.2 q) (zrow t.1 (t.2 + 1), t.2 + 1) k i = zenc ty ad t k i := by
  have hi3 : k = 3 → i ≠ t.2 + 1 := by
    intro h3 hi
    rw [h3, hi] at hk
    unfold zok at hk
    rw [if_pos rfl] at hk
    simp only [decide_eq_true_eq] at hk
    omega
  cases hz : zkind k with
  | inl x =>
    obtain ⟨c, fs⟩ := x
    rw [zenc_o hz, zenc_o hz]
    obtain ⟨-, r, -, -, hl, hf⟩ := zkind_o hz
    rw [zenF_congr (S := t.1) (ad := ad) fun f e he => ?_]
    have hf60 := (List.getElem?_eq_some_iff.mp he).1
    have hrow : zrow t.1 (t.2 + 1) (64 * k + f) i 0 = t.1 (64 * k + f) i 0 := by
      unfold zrow
      rw [if_neg]
      intro h
      exact hi3 (by omega) h.2
    match e, hf f e he with
    | 0, _ => exact congrArg Value.int hrow
    | 1, _ => exact congrArg Value.int hrow
    | q' + 2, h4 =>
      show Value.ref (zadd ad t.2 q q' i) = Value.ref (ad q' i)
      unfold zadd
      rw [if_neg (fun h => h4.2.1 h.1)]
  | inr x =>
    obtain ⟨a, e, n⟩ := x
    rw [zenc_a hz, zenc_a hz]
    obtain ⟨-, h3, he⟩ := zkind_a hz (zok_lt hk)
    have hrow : (fun j => zrow t.1 (t.2 + 1) (64 * k) i j) = fun j => t.1 (64 * k) i j := by
      funext j
      unfold zrow
      rw [if_neg]
      intro h
      omega
    by_cases h4 : e < 4
    · rw [zenA_lt h4, zenA_lt h4]
      rw [hrow]
    · obtain ⟨q', rfl⟩ : ∃ q', e = q' + 4 := ⟨e - 4, by omega⟩
      have he' : (a = 4 ∧ q' = 3 ∧ k = 2) ∨ (a = 5 ∧ q' = 11) ∨ (a = 6 ∧ q' = 8) := he
      have hr : zrefs (zadd ad t.2 q) (t.2 + 1) q' = zrefs ad t.2 q' := by
        rcases he' with ⟨-, -, h2⟩ | ⟨-, h2⟩ | ⟨-, h2⟩
        · exfalso
          apply hne
          refine ⟨h2, ?_⟩
          rw [h2] at hk
          unfold zok at hk
          rw [if_neg (by decide)] at hk
          simp only [decide_eq_true_eq] at hk
          have : zcnt 2 = 1 := by decide
          omega
        · exact zrefs_ne3 (by omega)
        · exact zrefs_ne3 (by omega)
      show Sum.inl (ty a, n, Sum.inr (Sum.inr (Sum.inr (Sum.inr (zrefs (zadd ad t.2 q) (t.2 + 1) q'))))) = Sum.inl (ty a, n, Sum.inr (Sum.inr (Sum.inr (Sum.inr (zrefs ad t.2 q')))))
      rw [hr]
-- the world with the new row
theorem zW_row {D : va_G} {ty : Nat → ClassId} {ad : zA} {t : zT} {H H2 : Heap} {L : List (Nat × Nat)} {A : Nat → Prop} {q q0 n : Nat} {fs : List Nat} (hL : zWL D ty ad t H L) (hq : L[q0]? = some (2, 0)) (hk2 : zkind 2 = .inr (4, 7, n)) (hk3 : zkind 3 = .inl (2, fs)) 
    (hP : va_P D zcl ((zl ty ad t L ++ ([(q, Sum.inr (2, zenF ad (zrow t.1 (t.2 + 1)) 3 (t.2 + 1) fs))] : va_W)).set q0 (ad 2 0, .inl (ty 4, n, .inr (.inr (.inr (.inr (va_up (zrefs ad t.2 3) (t.2 + 1) (some q)))))))) H2)
    (hD : va_D A ((zl ty ad t L ++ ([(q, Sum.inr (2, zenF ad (zrow t.1 (t.2 + 1)) 3 (t.2 + 1) fs))] : va_W)).set q0 (ad 2 0, .inl (ty 4, n, .inr (.inr (.inr (.inr (va_up (zrefs ad t.2 3) (t.2 + 1) (some q))))))))) :
    zW D ty (zadd ad t.2 q) (zrow t.1 (t.2 + 1), t.2 + 1) H2 := by
  have hlen : (zl ty ad t L).length = L.length := by simp [zl]
  have hq0 : q0 < L.length := (List.getElem?_eq_some_iff.mp hq).1
  have key : (zl ty ad t L ++ ([(q, Sum.inr (2, zenF ad (zrow t.1 (t.2 + 1)) 3 (t.2 + 1) fs))] : va_W)).set q0 (ad 2 0, .inl (ty 4, n, .inr (.inr (.inr (.inr (va_up (zrefs ad t.2 3) (t.2 + 1) (some q))))))) = zl ty (zadd ad t.2 q) (zrow t.1 (t.2 + 1), t.2 + 1) (L ++ [(3, t.2 + 1)]) := by
    apply List.ext_getElem?
    intro j
    by_cases hj : j = q0
    · subst hj
      rw [List.getElem?_set_self (by rw [List.length_append, hlen]; omega)]
      rw [zl_get (k := 2) (i := 0) (by rw [List.getElem?_append_left hq0]; exact hq), zenc_a hk2]
      show some _ = some (zadd ad t.2 q 2 0, _)
      have e1 : zadd ad t.2 q 2 0 = ad 2 0 := by simp [zadd]
      have e2 : zenA (zadd ad t.2 q) (zrow t.1 (t.2 + 1), t.2 + 1) 2 0 7 = .inr (.inr (.inr (.inr (zrefs (zadd ad t.2 q) (t.2 + 1) 3)))) := rfl
      rw [e1, e2, zrefs_3]
    · rw [List.getElem?_set_ne (Ne.symm hj)]
      by_cases hjl : j < L.length
      · rw [List.getElem?_append_left (by rw [hlen]; exact hjl)]
        cases hp : L[j]? with
        | none =>
          have := List.getElem?_eq_none_iff.mp hp
          omega
        | some x =>
          obtain ⟨k', i'⟩ := x
          have hv : zok t.2 k' i' = true := hL.2.1 _ (List.mem_of_getElem? hp)
          rw [zl_get hp, zl_get (k := k') (i := i') (by rw [List.getElem?_append_left hjl]; exact hp)]
          have hne : ¬ (k' = 2 ∧ i' = 0) := by
            intro e
            rw [e.1, e.2] at hp
            exact hj (hL.2.2.2.1 j q0 _ _ (zl_get hp) (zl_get hq) rfl)
          rw [zenc_row hv hne, zadd_ext ad t.2 q k' i' hv]
      · by_cases hjl2 : j = L.length
        · subst hjl2
          rw [List.getElem?_append_right (by rw [hlen]; exact Nat.le_refl _), hlen, Nat.sub_self]
          rw [zl_get (k := 3) (i := t.2 + 1) (by rw [List.getElem?_append_right (Nat.le_refl _), Nat.sub_self]; rfl), zenc_o hk3, zadd_new]
          rw [zenF_congr (ad := ad) (ad' := zadd ad t.2 q) (S := zrow t.1 (t.2 + 1)) fun f e he => ?_]
          · rfl
          · obtain ⟨-, r, -, -, -, hf⟩ := zkind_o hk3
            match e, hf f e he with
            | 0, _ => rfl
            | 1, _ => rfl
            | _ + 2, h4 => exact absurd rfl h4.2.2.1
        · rw [List.getElem?_eq_none (by rw [List.length_append, hlen]; simp; omega), List.getElem?_eq_none (by simp [zl]; omega)]
  rw [key] at hP hD
  refine ⟨L ++ [(3, t.2 + 1)], fun k i hk => ?_, fun x hx => ?_, hP, hD.1, fun _ _ _ => trivial⟩
  · rcases zok_new hk with h | ⟨rfl, rfl⟩
    · exact List.mem_append_left _ (hL.1 k i h)
    · exact List.mem_append_right _ List.mem_cons_self
  · rcases List.mem_append.mp hx with h | h
    · exact zok_mono (Nat.le_succ _) (hL.2.1 x h)
    · simp only [List.mem_cons, List.not_mem_nil, or_false] at h
      rw [h]
      unfold zok
      simp
theorem zrow_d1 : decode zrcode 1 = .ok (.invokespecial zrobj, 3) := by decide +kernel
theorem zrow_d4 : decode zrcode 4 = .ok (.return_, 1) := by decide +kernel
theorem zrow_met (l : Launch) (b : Nat) : Met l zrinit (Cond.code zrinit zrcode 1 none :: zWS) { frames := 1, locals := 12 } (fun v _ => v = #[.ref b]) (fun _ st oc u => oc = .returned none ∧ u.heap = st.heap) 0 0 (fun _ => False) := by
  refine Met.ofW (cc := zrcode) (maxL := 1) (ret := none) (by decide +kernel) rfl ?_
  intro p e s m args below meth c s₁ B hml hP
  have hws : ∀ w ∈ Cond.code zrinit zrcode 1 none :: zWS, w.before args s = true := atoms_spec B.pre
  have hat : ∀ w ∈ zWS, w.before args s = true := fun w hw => hws w (List.mem_cons_of_mem _ hw)
  have hown : s.vm.findClass "PageKeeper$LogRow" = some m.cls := findClass_of_methodNamed B.named
  have hP' : args = ([Value.ref b] : List Value).toArray := hP
  rw [show entryFrame m args 1 = F0 m 0 (([Value.ref b].map Slot.val ++ List.replicate (1 - 1) Slot.unset).toArray) [] by rw [hP']; exact entry_eq m [.ref b] (fun v hv => by simp at hv; rw [hv]; rfl) 1]
  refine lv_aload_n (k := 0) (i := 0) (x := b) B.exec B.bytes (by decide +kernel) rfl rfl ?_
  refine W.objInit B.exec B.bytes hown (hat _ zrow_ok.2.2.2.2.1) (hat _ zrow_ok.2.2.2.2.2.1) (hat _ zrow_ok.2.2.2.2.2.2) rfl (by rw [hml]; rfl) rfl zrow_d1 (Nat.le_refl _) (Nat.le_refl _) ?_
  exact W.vret (Qc := fun _ st oc u => oc = .returned none ∧ u.heap = st.heap) B.exec B.bytes B.returns (fun u hu _ => ⟨rfl, hu⟩) (fun q hq => by cases hq) zrow_d4 B.notSynchronized
section ZN
variable {p : Program} {l : Launch} {e : Env} {R : Room} {s : State} {m0 : MethodId} {args : Array Value} {below : List Frame} {meth : Method} {c : Code} {D : va_G} {ty : Nat → ClassId} {A : Nat → Prop} {m pc : Nat} {ls : List (Option zV)} {st : List zV} {t t' : zT} {o : zO}
theorem zs_row {n : Nat} {x : Int32} (C : zCx p l e R s m0 args meth c D ty A m) (hk : zrchk m pc n = true) (hd : decode (zbb m) pc = .ok (.new n, 3)) (hi : ∀ {q : Nat} {j : Instr} {ln : Nat}, zins m q = some (j, ln) → decode (zbb m) q = .ok (j, ln)) (hx : x = nI (t.2 + 1)) (hlt : t.2 + 1 < 1145) (hst : st.length ≤ 4) (hmono : t.2 + 1 ≤ t'.2)
    (K : zOK p l e R s m0 args below meth c D ty A m (pc + 8) ls st (zrow t.1 (t.2 + 1), t.2 + 1) o t') : zOK p l e R s m0 args below meth c D ty A m pc ls (.inl x :: .inr (some (2, 0)) :: st) t o t' := by
  unfold zrchk at hk
  simp only [Bool.and_eq_true] at hk
  obtain ⟨⟨⟨⟨k1, k2⟩, k3⟩, k4⟩, k5⟩ := hk
  have hown : zRn (zown m) = "PageKeeper$Log" := by rw [Nat.eq_of_beq_eq_true k1]; rfl
  have hf := Nat.le_of_ble_eq_true k4
  have hw := Nat.le_of_ble_eq_true k5
  have hfr := C.2.2.1.2.1
  have hlo := C.2.2.1.2.2.1
  split at k2
  · rename_i ic h3 h4 h7
    have hic := Nat.eq_of_beq_eq_true k2
    subst hic
    intro ad H locs cells slots lsA h hc hs
    obtain ⟨L, hL⟩ := h.2.2.1
    have hv : zok t.2 2 0 = true := zall_h (zall_t h.2.1)
    obtain ⟨q0, hq⟩ := hL.pos hv
    have hk2 : zkind 2 = .inr (4, 7, 1145) := by decide +kernel
    have hk3 : zkind 3 = .inl (2, zrfs) := by decide +kernel
    have hr : zcl[2]? = some (zR2, zT2, 16) := rfl
    obtain ⟨⟨ty0, hty⟩, hnm⟩ := zcl_ty hr
    obtain ⟨-, r', hr', hlen, -, hfs⟩ := zkind_o hk3
    cases hr.symm.trans hr'
    have hlen : zrfs.length = 16 := hlen
    have hown' : s.vm.findClass "PageKeeper$Log" = some m0.cls := by rw [← hown]; exact C.2.1.1
    have hq0 : q0 < L.length := (List.getElem?_eq_some_iff.mp hq).1
    have hzl : (zl ty ad t L).length = L.length := by simp [zl]
    refine va_new (c0 := c) C.1.1 C.1.2.1 (own := "PageKeeper$Log") (C := zR2) (T := zT2) (N := 16) (ci := 2) (Ts := zWS) C.2.1.2.1 (zcl_in hr) ty0 hty hown' (C.2.1.2.1 _ (zhas_mem k3)) (C.2.1.2.1 _ zrow_ok.2.1) (C.2.1.2.1 _ zrow_ok.1) C.2.1.2.2 hL.2.2.1 (hL.da h.2.2.2.1) h.2.2.2.2 C.2.2.2.1 hr (fs := zenF ad (zrow t.1 (t.2 + 1)) 3 (t.2 + 1) zrfs) (fun j hj => ?_) (by omega) (by omega) hd fun q H1 hP1 hD1 hS1 => ?_
    · have hj' : j < zrfs.length := by omega
      have he : zrfs[j]? = some zrfs[j] := List.getElem?_eq_getElem hj'
      have hz : zrow t.1 (t.2 + 1) (64 * 3 + j) (t.2 + 1) 0 = 0 := by
        unfold zrow
        rw [if_pos ⟨by omega, rfl⟩]
      have hV : vp_V (zenF ad (zrow t.1 (t.2 + 1)) 3 (t.2 + 1) zrfs) j = zfv ad (zrow t.1 (t.2 + 1)) 3 (t.2 + 1) zrfs[j] j := by
        unfold vp_V
        rw [List.getD_eq_getElem?_getD, zenF_get he]
        rfl
      rw [hV]
      have hff := hfs j _ he
      have htj := hty j hj
      match zrfs[j], hff with
      | 0, hff =>
        rw [hff.1] at htj
        rw [← Option.some.inj htj]
        show _ = Value.int _
        rw [hz]
        rfl
      | 1, hff =>
        rw [hff.1] at htj
        rw [← Option.some.inj htj]
        show _ = Value.int _
        rw [hz]
        rfl
      | _ + 2, hff => exact absurd rfl hff.2.2.1
    · refine lv_dup C.1.1 C.1.2.1 (hi h3) rfl ?_
      have hall : ∀ w ∈ Cond.code zrinit zrcode 1 none :: zWS, ∀ (a' : Array Value) (U : State), s.WarmedH U.vm → w.before a' U = true := by
        intro w hw a' U hW
        rcases List.mem_cons.mp hw with rfl | hw
        · exact zword hW (zWS_good zrow_ok.2.2.2.1) (C.2.1.2.1 _ zrow_ok.2.2.2.1)
        · exact zword hW (zWS_good hw) (C.2.1.2.1 _ hw)
      have hpar : ∀ sig, parseMethodDescriptor zrinit.desc = some sig → 0 = sig.parameters.length := by
        intro sig e1
        have e2 : (parseMethodDescriptor zrinit.desc).map (fun d => d.parameters.length) = some 0 := by decide +kernel
        rw [e1] at e2
        exact (Option.some.inj e2).symm
      have hrun := va_runIN (n := 0) (mc := 0) (ms := 0) (cells := cells + 1) (slots := slots + 16) (H := H1) (locs := locs) (cc := zbb m) (nL := zlocs m) (Ts := zWS) (own := "PageKeeper$Log") (host := "PageKeeper") (index := zric) (bytes := zrcode) (maxL := 1) (b := q) (As := []) (rest := .ref q :: .int x :: .ref (ad 2 0) :: st.map (zcv ad)) (g := F0 m0 (pc + 3 + 1) lsA (.ref q :: .ref q :: .int x :: .ref (ad 2 0) :: st.map (zcv ad))) (below := below) (meth := meth) (R := R) (e := e)
        ⟨C.1.1, C.1.2.1, C.1.2.2.1, hown', C.2.1.2.1⟩ (zrow_met l q)
        ⟨⟨⟨rfl, rfl, by show 1 + 1 ≤ R.frames; omega, by show 8 + (1 + 11) + 12 ≤ R.locals; omega, hall, List.mem_cons_self⟩, C.2.1.2.1 _ zrow_ok.2.2.2.1, C.2.1.2.1 _ zrow_ok.1, by decide +kernel, hpar, va_Nw.use rfl C.2.2.1.2.2.2.1.1⟩, rfl, C.2.1.2.1 _ zrow_ok.2.2.1⟩
        ⟨fun a U g mk hq => hq, fun U hU hW => rfl⟩ rfl rfl h.1.2.1 rfl (by show 2 * 0 + _ ≤ 8; simp only [List.map_cons, List.sum_cons]; rw [zsum]; simp only [Value.category]; omega) (hi h4) ⟨by omega, by omega⟩
      intro T hT X
      obtain ⟨v, st₀, u, T', L2, h0, X', hL2, e1, e2, ⟨g1, g2⟩, go⟩ := hrun T hT X
      cases g1
      have hT' : T'.heap = H1 := by rw [e1, g2, h0]
      have hS2 : va_S A s.heap H1 (locs ++ L2) := ⟨hS1.1, hS1.2.1, fun y hy => by
        rcases List.mem_append.mp hy with hy | hy
        · exact hS1.2.2 y hy
        · exact (hL2 y hy).elim⟩
      have hxc : x.toNatClampNeg = t.2 + 1 := by rw [hx]; exact nI_clamp (by omega)
      have hAq : A q := by
        have := hD1.2 L.length (q, .inr (2, zenF ad (zrow t.1 (t.2 + 1)) 3 (t.2 + 1) zrfs)) (by rw [List.getElem?_append_right (by rw [hzl]; exact Nat.le_refl _), hzl, Nat.sub_self]; rfl)
        exact this
      have hfin : W p l e R s m0 args below meth c H1 (locs ++ L2) (cells + 1 + 0) (slots + 16 + 0) (zEnd D ty A s below ad t.2 o t' (cells + (t'.2 - t.2) + zth o) (slots + 16 * (t'.2 - t.2) + 6 * zth o)) (F0 m0 (pc + 7) lsA (.ref q :: .int x :: .ref (ad 2 0) :: st.map (zcv ad))) := by
        refine va_astq (r := (zR2, zT2, 16)) (n := 1145) (f := zrefs ad t.2 3) C.1.1 C.1.2.1 C.2.1.2.2 hP1 hD1 hS2 q0 4 L.length 2 (by rw [List.getElem?_append_left (by rw [hzl]; exact hq0), zl_get hq, zenc_a hk2]; rfl) rfl (vs := zenF ad (zrow t.1 (t.2 + 1)) 3 (t.2 + 1) zrfs) (by rw [List.getElem?_append_right (by rw [hzl]; exact Nat.le_refl _), hzl, Nat.sub_self]; rfl) hr (by rw [hx]; exact nI_in hlt (by decide)) (hi h7) fun H2 locs2 hP2 hD2 hS3 => ?_
        rw [hxc] at hP2 hD2
        have hw2 := zW_row hL hq hk2 hk3 hP2 hD2
        have hext := zadd_ext ad t.2 q
        have k2 := K (zadd ad t.2 q) H2 locs2 (cells + 1 + 0) (slots + 16 + 0) lsA ⟨zLs_ext h.1 hext (Nat.le_succ _), fun w hw => zvok_mono (Nat.le_succ _) (zall_t (zall_t h.2.1) w hw), hw2, fun k i hki => ?_, hS3⟩ (by show cells + 1 + 0 + (t'.2 - (t.2 + 1)) + zth o ≤ _; omega) (by show slots + 16 + 0 + 16 * (t'.2 - (t.2 + 1)) + 6 * zth o ≤ _; omega)
        · rw [zmap_ext hext (zall_t (zall_t h.2.1))] at k2
          refine zW_mono k2 fun u2 hu2 => ?_
          obtain ⟨oc, g2, g3, ⟨⟨ad2, g4, g5, g6, g7⟩, g8⟩, L3, g9, g10⟩ := hu2
          refine ⟨oc, g2, g3, ⟨⟨ad2, hext.trans (Nat.le_succ _) g4, g5, g6, g7⟩, g8⟩, L3, ?_, g10⟩
          have e5 : cells + (t'.2 - t.2) + zth o = cells + 1 + 0 + (t'.2 - (t.2 + 1)) + zth o := by omega
          have e6 : slots + 16 * (t'.2 - t.2) + 6 * zth o = slots + 16 + 0 + 16 * (t'.2 - (t.2 + 1)) + 6 * zth o := by omega
          rw [e5, e6]
          exact g9
        · rcases zok_new hki with hki | ⟨rfl, rfl⟩
          · rw [hext k i hki]
            exact h.2.2.2.1 k i hki
          · rw [zadd_new]
            exact hAq
      obtain ⟨t2, a1, b1⟩ := hfin T' hT' X'
      exact ⟨t2, go t2 a1, b1⟩
  · cases k2
end ZN
