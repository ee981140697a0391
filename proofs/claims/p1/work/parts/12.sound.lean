/-! The small machine is sound. -/
section ZS
variable {p : Program} {l : Launch} {e : Env} {R : Room} {s : State} {m0 : MethodId} {args : Array Value} {below : List Frame} {meth : Method} {c : Code} {D : va_G} {ty : Nat → ClassId} {A : Nat → Prop} {m pc len : Nat} {ls : List (Option zV)} {st : List zV} {t t' t1 : zT} {o : zO}
def zCont (p : Program) (l : Launch) (e : Env) (R : Room) (s : State) (m0 : MethodId) (args : Array Value) (below : List Frame) (meth : Method) (c : Code) (D : va_G) (ty : Nat → ClassId) (A : Nat → Prop) (m : Nat) (ls : List (Option zV)) (t : zT) (o : zO) (t' : zT) (r : zR) : Prop := match r with
  | .inl (b, pc', ls', st', t1) => b = true ∧ t1.2 ≤ t'.2 ∧ zOK p l e R s m0 args below meth c D ty A m pc' ls' st' t1 o t'
  | .inr (.inl (o1, t1)) => o1 = o ∧ t1 = t'
  | .inr (.inr (.inl (b, p1, p2, st'))) => (b = true → zOK p l e R s m0 args below meth c D ty A m p1 ls st' t o t') ∧ (b = false → zOK p l e R s m0 args below meth c D ty A m p2 ls st' t o t')
  | .inr (.inr (.inr (m', as, rest, pc'))) => (∃ v t1, t.2 ≤ t1.2 ∧ t1.2 ≤ t'.2 ∧ zCal l D ty m' as t (.inl v) t1 ∧ zOK p l e R s m0 args below meth c D ty A m pc' ls (zpush v rest) t1 o t') ∨ ∃ x, o = .inr x ∧ zCal l D ty m' as t (.inr x) t'
theorem zK_go {b : Bool} {pc' : Nat} {ls' : List (Option zV)} {st' : List zV} (K : zCont p l e R s m0 args below meth c D ty A m ls t o t' (.inl (b, pc', ls', st', t1))) : zOK p l e R s m0 args below meth c D ty A m pc' ls' st' t1 o t' := K.2.2
theorem zK_md {b : Bool} {pc' : Nat} {ls' : List (Option zV)} {st' : List zV} (K : zCont p l e R s m0 args below meth c D ty A m ls t o t' (.inl (b, pc', ls', st', t1))) : t1.2 ≤ t'.2 := K.2.1
theorem zK_gd {b : Bool} {pc' : Nat} {ls' : List (Option zV)} {st' : List zV} (K : zCont p l e R s m0 args below meth c D ty A m ls t o t' (.inl (b, pc', ls', st', t1))) : b = true ∧ zOK p l e R s m0 args below meth c D ty A m pc' ls' st' t1 o t' := ⟨K.1, K.2.2⟩
theorem zK_end {o1 : zO} (K : zCont p l e R s m0 args below meth c D ty A m ls t o t' (.inr (.inl (o1, t1)))) : o1 = o ∧ t1 = t' := K
theorem zK_br {b : Bool} {p1 p2 : Nat} {st' : List zV} (K : zCont p l e R s m0 args below meth c D ty A m ls t o t' (.inr (.inr (.inl (b, p1, p2, st'))))) : (b = true → zOK p l e R s m0 args below meth c D ty A m p1 ls st' t o t') ∧ (b = false → zOK p l e R s m0 args below meth c D ty A m p2 ls st' t o t') := K
theorem zK_call {m' pc' : Nat} {as rest : List zV} (K : zCont p l e R s m0 args below meth c D ty A m ls t o t' (.inr (.inr (.inr (m', as, rest, pc'))))) : (∃ v t1, t.2 ≤ t1.2 ∧ t1.2 ≤ t'.2 ∧ zCal l D ty m' as t (.inl v) t1 ∧ zOK p l e R s m0 args below meth c D ty A m pc' ls (zpush v rest) t1 o t') ∨ ∃ x, o = .inr x ∧ zCal l D ty m' as t (.inr x) t' := K
theorem zgo_r {pc : Nat} {ls : List (Option zV)} {st : List zV} {t : zT} {r : zR} (h : zgo pc ls st t = some r) : r = .inl (true, pc, ls, st, t) := (Option.some.inj h).symm
theorem zgd_r {b : Bool} {pc : Nat} {ls : List (Option zV)} {st : List zV} {t : zT} {r : zR} (h : zgd b pc ls st t = some r) : r = .inl (b, pc, ls, st, t) := (Option.some.inj h).symm
theorem zend_r {o : zO} {t : zT} {r : zR} (h : zend o t = some r) : r = .inr (.inl (o, t)) := (Option.some.inj h).symm
theorem zbr_r {b : Bool} {p1 p2 : Nat} {st : List zV} {r : zR} (h : zbr b p1 p2 st = some r) : r = .inr (.inr (.inl (b, p1, p2, st))) := (Option.some.inj h).symm
theorem zcall_r {virt : Bool} {own index pc : Nat} {st : List zV} {r : zR} (h : zcall virt own index pc st = some r) : ∃ m' n as rest, r = .inr (.inr (.inr (m', as, rest, pc + 3))) ∧ zcal own index = some (m', n) ∧ n ≤ st.length ∧ st.length ≤ n + 8 ∧ (virt = true → zrecv m' as = true) ∧ zstat m' = !virt ∧ as = (st.take n).reverse ∧ rest = st.drop n := by
  unfold zcall at h
  split at h
  · cases h
  · rename_i m1 n hz
    split at h
    · rename_i hb
      have hr := (Option.some.inj h).symm
      simp only [Bool.and_eq_true] at hb
      refine ⟨m1, n, _, _, hr, hz, Nat.le_of_ble_eq_true hb.1.1.1, Nat.le_of_ble_eq_true hb.1.1.2, fun hv => ?_, ?_, rfl, rfl⟩
      · have h2 := hb.1.2
        rw [hv] at h2
        exact h2
      · have := hb.2
        cases virt <;> cases hs : zstat m1 <;> simp [hs] at this ⊢
    · cases h
theorem zload_in {el pc : Nat} {st : List zV} {r : zR} (h : zload el pc ls st t = some r) : ∃ x k i st1 a n, st = .inl x :: .inr (some (k, i)) :: st1 ∧ zkind k = .inr (a, el, n) ∧ zgd (zin x n) (pc + 1) ls (.inl (t.1 (64 * k) i x.toNatClampNeg) :: st1) t = some r := by
  unfold zload at h
  split at h
  · rename_i x k i r'
    split at h
    · rename_i a e n hk
      by_cases he : e = el
      · rw [if_pos he] at h
        subst he
        exact ⟨x, k, i, r', a, n, rfl, hk, h⟩
      · rw [if_neg he] at h
        cases h
    · cases h
  · cases h
theorem zstore_in {el pc : Nat} {nar : Int32 → Int32} {st : List zV} {r : zR} (h : zstore el nar pc ls st t = some r) : ∃ v x k i st1 a n, st = .inl v :: .inl x :: .inr (some (k, i)) :: st1 ∧ zkind k = .inr (a, el, n) ∧ zgd (zin x n) (pc + 1) ls st1 (zu t.1 (64 * k) i x.toNatClampNeg (nar v), t.2) = some r := by
  unfold zstore at h
  split at h
  · rename_i v x k i r'
    split at h
    · rename_i a e n hk
      by_cases he : e = el
      · rw [if_pos he] at h
        subst he
        exact ⟨v, x, k, i, r', a, n, rfl, hk, h⟩
      · rw [if_neg he] at h
        cases h
    · cases h
  · cases h
-- one step
theorem zstep {i : Instr} {r : zR} (htr : ∀ e, l.admits e → e.platform.stackTraces = false) (C : zCx p l e R s m0 args meth c D ty A m) (ho : zown m < 8) (hd : decode (zbb m) pc = .ok (i, len)) (hk : zchk m pc i len = true) (hi : ∀ {q : Nat} {j : Instr} {ln : Nat}, zins m q = some (j, ln) → decode (zbb m) q = .ok (j, ln)) (hx : zex (zown m) (zrt m) pc len i ls st t = some r)
    (K : zCont p l e R s m0 args below meth c D ty A m ls t o t' r) : zOK p l e R s m0 args below meth c D ty A m pc ls st t o t' := by
  cases i with
  | iconst n =>
    obtain rfl : len = 1 := Nat.eq_of_beq_eq_true hk
    obtain rfl := zgo_r hx
    replace K := zK_go K
    exact zs_int C hd K
  | bipush n =>
    obtain rfl : len = 2 := Nat.eq_of_beq_eq_true hk
    cases n with
    | ofNat n =>
      change (if n < 128 then zgo _ _ _ _ else none) = _ at hx
      split at hx
      · rename_i hn
        obtain rfl := zgo_r hx
        replace K := zK_go K
        exact zs_bip C hn hd K
      · cases hx
    | negSucc n => cases hx
  | sipush n =>
    obtain rfl : len = 3 := Nat.eq_of_beq_eq_true hk
    cases n with
    | ofNat n =>
      change (if n < 32768 then zgo _ _ _ _ else none) = _ at hx
      split at hx
      · rename_i hn
        obtain rfl := zgo_r hx
        replace K := zK_go K
        exact zs_sip C hn hd K
      · cases hx
    | negSucc n => cases hx
  | iload n =>
    obtain rfl : len = 2 := Nat.eq_of_beq_eq_true hk
    change zil n 2 pc ls st t = _ at hx
    unfold zil at hx
    split at hx
    · rename_i x hl
      obtain rfl := zgo_r hx
      replace K := zK_go K
      exact zs_il C hl hd K
    · cases hx
  | iload_n n =>
    obtain rfl : len = 1 := Nat.eq_of_beq_eq_true hk
    change zil n.val 1 pc ls st t = _ at hx
    unfold zil at hx
    split at hx
    · rename_i x hl
      obtain rfl := zgo_r hx
      replace K := zK_go K
      exact zs_iln C hl hd K
    · cases hx
  | aload n =>
    obtain rfl : len = 2 := Nat.eq_of_beq_eq_true hk
    change zal n 2 pc ls st t = _ at hx
    unfold zal at hx
    split at hx
    · rename_i x hl
      obtain rfl := zgo_r hx
      replace K := zK_go K
      exact zs_al C hl hd K
    · cases hx
  | aload_n n =>
    obtain rfl : len = 1 := Nat.eq_of_beq_eq_true hk
    change zal n.val 1 pc ls st t = _ at hx
    unfold zal at hx
    split at hx
    · rename_i x hl
      obtain rfl := zgo_r hx
      replace K := zK_go K
      exact zs_aln C hl hd K
    · cases hx
  | istore n =>
    obtain rfl : len = 2 := Nat.eq_of_beq_eq_true hk
    change zis n 2 pc ls st t = _ at hx
    unfold zis at hx
    split at hx
    · split at hx
      · rename_i hl
        obtain rfl := zgo_r hx
        replace K := zK_go K
        exact zs_is C hl hd K
      · cases hx
    · cases hx
  | istore_n n =>
    obtain rfl : len = 1 := Nat.eq_of_beq_eq_true hk
    change zis n.val 1 pc ls st t = _ at hx
    unfold zis at hx
    split at hx
    · split at hx
      · rename_i hl
        obtain rfl := zgo_r hx
        replace K := zK_go K
        exact zs_isn C hl hd K
      · cases hx
    · cases hx
  | astore n =>
    obtain rfl : len = 2 := Nat.eq_of_beq_eq_true hk
    change zas n 2 pc ls st t = _ at hx
    unfold zas at hx
    split at hx
    · split at hx
      · rename_i hl
        obtain rfl := zgo_r hx
        replace K := zK_go K
        exact zs_as C hl hd K
      · cases hx
    · cases hx
  | astore_n n =>
    obtain rfl : len = 1 := Nat.eq_of_beq_eq_true hk
    change zas n.val 1 pc ls st t = _ at hx
    unfold zas at hx
    split at hx
    · split at hx
      · rename_i hl
        obtain rfl := zgo_r hx
        replace K := zK_go K
        exact zs_asn C hl hd K
      · cases hx
    · cases hx
  | iinc n d =>
    obtain rfl : len = 3 := Nat.eq_of_beq_eq_true hk
    change (match zld ls n with
      | some (.inl x) => if n < ls.length then zgo (pc + 3) (ls.set n (some (.inl (x + zint d)))) st t else none
      | _ => none) = _ at hx
    split at hx
    · rename_i x hl
      split at hx
      · rename_i hn
        obtain rfl := zgo_r hx
        replace K := zK_go K
        exact zs_inc C hn hl hd K
      · cases hx
    · cases hx
  | dup =>
    obtain rfl : len = 1 := Nat.eq_of_beq_eq_true hk
    match st, hx with
    | a :: r, hx =>
      obtain rfl := zgo_r hx
      replace K := zK_go K
      exact zs_dup C hd K
  | dup_x1 =>
    obtain rfl : len = 1 := Nat.eq_of_beq_eq_true hk
    match st, hx with
    | a :: b :: r, hx =>
      obtain rfl := zgo_r hx
      replace K := zK_go K
      exact zs_dx1 C hd K
  | dup2 =>
    obtain rfl : len = 1 := Nat.eq_of_beq_eq_true hk
    match st, hx with
    | a :: b :: r, hx =>
      obtain rfl := zgo_r hx
      replace K := zK_go K
      exact zs_d2 C hd K
  | pop =>
    obtain rfl : len = 1 := Nat.eq_of_beq_eq_true hk
    match st, hx with
    | a :: r, hx =>
      obtain rfl := zgo_r hx
      replace K := zK_go K
      exact zs_pop C hd K
  | iadd =>
    obtain rfl : len = 1 := Nat.eq_of_beq_eq_true hk
    match st, hx with
    | .inl y :: .inl x :: r, hx =>
      obtain rfl := zgo_r hx
      replace K := zK_go K
      exact zs_add C hd K
  | isub =>
    obtain rfl : len = 1 := Nat.eq_of_beq_eq_true hk
    match st, hx with
    | .inl y :: .inl x :: r, hx =>
      obtain rfl := zgo_r hx
      replace K := zK_go K
      exact zs_sub C hd K
  | imul =>
    obtain rfl : len = 1 := Nat.eq_of_beq_eq_true hk
    match st, hx with
    | .inl y :: .inl x :: r, hx =>
      obtain rfl := zgo_r hx
      replace K := zK_go K
      exact zs_mul C hd K
  | idiv =>
    obtain rfl : len = 1 := Nat.eq_of_beq_eq_true hk
    match st, hx with
    | .inl y :: .inl x :: r, hx =>
      obtain rfl := zgd_r hx
      have hb := (zK_gd K).1.symm
      replace K := (zK_gd K).2
      exact zs_div C (of_decide_eq_true hb.symm) hd K
  | irem =>
    obtain rfl : len = 1 := Nat.eq_of_beq_eq_true hk
    match st, hx with
    | .inl y :: .inl x :: r, hx =>
      obtain rfl := zgd_r hx
      have hb := (zK_gd K).1.symm
      replace K := (zK_gd K).2
      exact zs_rem C (of_decide_eq_true hb.symm) hd K
  | i2b =>
    obtain rfl : len = 1 := Nat.eq_of_beq_eq_true hk
    match st, hx with
    | .inl x :: r, hx =>
      obtain rfl := zgo_r hx
      replace K := zK_go K
      exact zs_i2b C hd K
  | i2s =>
    obtain rfl : len = 1 := Nat.eq_of_beq_eq_true hk
    match st, hx with
    | .inl x :: r, hx =>
      obtain rfl := zgo_r hx
      replace K := zK_go K
      exact zs_i2s C hd K
  | ifnonnull off =>
    have hk2 := Bool.and_eq_true_iff.mp hk
    obtain rfl : len = 3 := Nat.eq_of_beq_eq_true hk2.1
    match st, hx with
    | .inr none :: r, hx =>
      obtain rfl := zgo_r hx
      replace K := zK_go K
      exact zs_nn0 C hd K
    | .inr (some q) :: r, hx =>
      obtain rfl := zgo_r hx
      replace K := zK_go K
      exact zs_nn1 C (of_decide_eq_true hk2.2) hd K
  | ifnull off =>
    have hk2 := Bool.and_eq_true_iff.mp hk
    obtain rfl : len = 3 := Nat.eq_of_beq_eq_true hk2.1
    match st, hx with
    | .inr none :: r, hx =>
      obtain rfl := zgo_r hx
      replace K := zK_go K
      exact zs_n0 C (of_decide_eq_true hk2.2) hd K
    | .inr (some q) :: r, hx =>
      obtain rfl := zgo_r hx
      replace K := zK_go K
      exact zs_n1 C hd K
  | goto off =>
    have hk2 := Bool.and_eq_true_iff.mp hk
    obtain rfl : len = 3 := Nat.eq_of_beq_eq_true hk2.1
    obtain rfl := zgo_r hx
    replace K := zK_go K
    exact zs_goto C (of_decide_eq_true hk2.2) hd K
  | getfield n =>
    obtain rfl : len = 3 := Nat.eq_of_beq_eq_true hk
    match st, hx with
    | .inr (some (k, i)) :: r, hx =>
      change (match zfld (zown m) n with
        | some (c, f) => if zcls k c = true then (match zget k i f t with
          | some v => zgo (pc + 3) ls (v :: r) t
          | none => none) else none
        | none => none) = _ at hx
      split at hx
      · rename_i ci f hz
        split at hx
        · rename_i hcl
          split at hx
          · rename_i v hg
            obtain rfl := zgo_r hx
            replace K := zK_go K
            exact zs_get C ho hz hcl hg hd K
          · cases hx
        · cases hx
      · cases hx
  | putfield n =>
    obtain rfl : len = 3 := Nat.eq_of_beq_eq_true hk
    match st, hx with
    | .inl v :: .inr (some (k, i)) :: r, hx =>
      change (match zfld (zown m) n with
        | some (c, f) => match zkind k with
          | .inl (c', fs) => if c' = c then (match fs[f]? with
            | some 0 => zgo (pc + 3) ls r (zu t.1 (64 * k + f) i 0 v, t.2)
            | some 1 => zgd (decide (v = 0 ∨ v = 1)) (pc + 3) ls r (zu t.1 (64 * k + f) i 0 v, t.2)
            | _ => none) else none
          | .inr _ => none
        | none => none) = _ at hx
      split at hx
      · rename_i ci f hz
        split at hx
        · rename_i c' fs hkk
          split at hx
          · rename_i hcc
            subst hcc
            split at hx
            · rename_i hf
              obtain rfl := zgo_r hx
              replace K := zK_go K
              exact zs_put C ho hz hkk hf (Or.inl rfl) hd K
            · rename_i hf
              obtain rfl := zgd_r hx
              have hb := (zK_gd K).1.symm
              replace K := (zK_gd K).2
              exact zs_put C ho hz hkk hf (Or.inr ⟨rfl, of_decide_eq_true hb.symm⟩) hd K
            · cases hx
          · cases hx
        · cases hx
      · cases hx
  | iaload =>
    obtain rfl : len = 1 := Nat.eq_of_beq_eq_true hk
    obtain ⟨x, k, i, st1, a, n, rfl, hkk, hx⟩ := zload_in (el := 0) hx
    obtain rfl := zgd_r hx
    have hb := (zK_gd K).1.symm
    replace K := (zK_gd K).2
    exact zs_ld C hkk (Or.inl ⟨rfl, rfl⟩) hb.symm hd K
  | saload =>
    obtain rfl : len = 1 := Nat.eq_of_beq_eq_true hk
    obtain ⟨x, k, i, st1, a, n, rfl, hkk, hx⟩ := zload_in (el := 2) hx
    obtain rfl := zgd_r hx
    have hb := (zK_gd K).1.symm
    replace K := (zK_gd K).2
    exact zs_ld C hkk (Or.inr (Or.inr (Or.inl ⟨rfl, rfl⟩))) hb.symm hd K
  | baload =>
    obtain rfl : len = 1 := Nat.eq_of_beq_eq_true hk
    match st, hx with
    | .inl x0 :: .inr (some (k0, i0)) :: r, hx =>
      change (match zkind k0 with
        | .inr (_, 3, _) => zload 3 pc ls (.inl x0 :: .inr (some (k0, i0)) :: r) t
        | _ => zload 1 pc ls (.inl x0 :: .inr (some (k0, i0)) :: r) t) = _ at hx
      split at hx
      · obtain ⟨x, k, i, st1, a, n, e1, hkk, hx⟩ := zload_in (el := 3) hx
        cases e1
        obtain rfl := zgd_r hx
        have hb := (zK_gd K).1.symm
        replace K := (zK_gd K).2
        exact zs_ld C hkk (Or.inr (Or.inr (Or.inr ⟨rfl, rfl⟩))) hb.symm hd K
      · obtain ⟨x, k, i, st1, a, n, e1, hkk, hx⟩ := zload_in (el := 1) hx
        cases e1
        obtain rfl := zgd_r hx
        have hb := (zK_gd K).1.symm
        replace K := (zK_gd K).2
        exact zs_ld C hkk (Or.inr (Or.inl ⟨rfl, rfl⟩)) hb.symm hd K
  | iastore =>
    obtain rfl : len = 1 := Nat.eq_of_beq_eq_true hk
    obtain ⟨v, x, k, i, st1, a, n, rfl, hkk, hx⟩ := zstore_in (el := 0) hx
    obtain rfl := zgd_r hx
    have hb := (zK_gd K).1.symm
    replace K := (zK_gd K).2
    exact zs_st C hkk (Or.inl ⟨rfl, rfl⟩) hb.symm hd K
  | sastore =>
    obtain rfl : len = 1 := Nat.eq_of_beq_eq_true hk
    obtain ⟨v, x, k, i, st1, a, n, rfl, hkk, hx⟩ := zstore_in (el := 2) hx
    obtain rfl := zgd_r hx
    have hb := (zK_gd K).1.symm
    replace K := (zK_gd K).2
    exact zs_st C hkk (Or.inr (Or.inr (Or.inl ⟨rfl, rfl⟩))) hb.symm hd K
  | bastore =>
    obtain rfl : len = 1 := Nat.eq_of_beq_eq_true hk
    match st, hx with
    | .inl v0 :: .inl x0 :: .inr (some (k0, i0)) :: r, hx =>
      change (match zkind k0 with
        | .inr (_, 3, _) => zstore 3 (vp_nar .boolean) pc ls (.inl v0 :: .inl x0 :: .inr (some (k0, i0)) :: r) t
        | _ => zstore 1 (vp_nar .byte) pc ls (.inl v0 :: .inl x0 :: .inr (some (k0, i0)) :: r) t) = _ at hx
      split at hx
      · obtain ⟨v, x, k, i, st1, a, n, e1, hkk, hx⟩ := zstore_in (el := 3) hx
        cases e1
        obtain rfl := zgd_r hx
        have hb := (zK_gd K).1.symm
        replace K := (zK_gd K).2
        exact zs_st C hkk (Or.inr (Or.inr (Or.inr ⟨rfl, rfl⟩))) hb.symm hd K
      · obtain ⟨v, x, k, i, st1, a, n, e1, hkk, hx⟩ := zstore_in (el := 1) hx
        cases e1
        obtain rfl := zgd_r hx
        have hb := (zK_gd K).1.symm
        replace K := (zK_gd K).2
        exact zs_st C hkk (Or.inr (Or.inl ⟨rfl, rfl⟩)) hb.symm hd K
  | aaload =>
    obtain rfl : len = 1 := Nat.eq_of_beq_eq_true hk
    match st, hx with
    | .inl x :: .inr (some (k, i)) :: r, hx =>
      change (match zkind k with
        | .inr (_, q + 4, n) => zgd (zin x n) (pc + 1) ls (.inr (zel t.2 q x.toNatClampNeg) :: r) t
        | _ => none) = _ at hx
      split at hx
      · rename_i a q n hkk
        obtain rfl := zgd_r hx
        have hb := (zK_gd K).1.symm
        replace K := (zK_gd K).2
        exact zs_ald C hkk hb.symm hd K
      · cases hx
  | invokestatic n =>
    have hk2 := Bool.and_eq_true_iff.mp hk
    obtain rfl : len = 3 := Nat.eq_of_beq_eq_true hk2.1
    change (match zcal (zown m) n with
      | some (999, _) => match st with
        | .inl y :: .inl x :: r => if Nat.ble r.length 8 = true then zgo (pc + 3) ls (.inl (if x < y then y else x) :: r) t else none
        | _ => none
      | _ => zcall false (zown m) n pc st) = _ at hx
    split at hx
    · rename_i k0 hz
      split at hx
      · rename_i y x r
        split at hx
        · rename_i hr
          obtain rfl := zgo_r hx
          replace K := zK_go K
          have hk3 := hk2.2
          rw [hz] at hk3
          have hk4 := Bool.and_eq_true_iff.mp hk3
          exact zs_max C ho hz (Nat.le_of_ble_eq_true hk4.1) (Nat.le_of_ble_eq_true hk4.2) (Nat.le_of_ble_eq_true hr) hd K
        · cases hx
      · cases hx
    · rename_i hne
      obtain ⟨m', n0, as, rest, rfl, hz, h1, h2, -, h4, h5, h6⟩ := zcall_r hx
      have h9 : m' ≠ 999 := by
        intro h
        subst h
        exact hne n0 hz
      have hk3 := hk2.2
      rw [hz] at hk3
      simp only [znbeq h9, cond_false, Bool.and_eq_true] at hk3
      rcases zK_call K with ⟨v, t1, g1, g2, g3, g4⟩ | ⟨x, rfl, g3⟩
      · exact zs_callS htr C ho hz h9 h4 h1 h2 h5 h6 (Nat.le_of_ble_eq_true hk3.1) (Nat.le_of_ble_eq_true hk3.2) hd g1 g2 g3 g4
      · exact zs_thrS htr C ho hz h9 h4 h1 h2 h5 h6 (Nat.le_of_ble_eq_true hk3.1) (Nat.le_of_ble_eq_true hk3.2) hd g3
  | invokevirtual n =>
    have hk2 := Bool.and_eq_true_iff.mp hk
    obtain rfl : len = 3 := Nat.eq_of_beq_eq_true hk2.1
    change zcall true (zown m) n pc st = _ at hx
    obtain ⟨m', n0, as, rest, rfl, hz, h1, h2, h3, h4, h5, h6⟩ := zcall_r hx
    have h9 : m' ≠ 999 := by
      intro h
      subst h
      have h3' := h3 rfl
      unfold zrecv at h3'
      split at h3'
      · have h10 : zown 999 = 99 := by decide +kernel
        rw [h10] at h3'
        obtain ⟨fs, hkk⟩ := zcls_ok h3'
        obtain ⟨-, r, hr, -⟩ := zkind_o hkk
        cases hr
      · cases h3'
    have hk3 := hk2.2
    rw [hz] at hk3
    simp only [Bool.and_eq_true] at hk3
    rcases zK_call K with ⟨v, t1, g1, g2, g3, g4⟩ | ⟨x, rfl, g3⟩
    · exact zs_callV htr C ho hz h9 h4 (h3 rfl) h1 h2 h5 h6 (Nat.le_of_ble_eq_true hk3.1) (Nat.le_of_ble_eq_true hk3.2) hd g1 g2 g3 g4
    · exact zs_thrV htr C ho hz h9 h4 (h3 rfl) h1 h2 h5 h6 (Nat.le_of_ble_eq_true hk3.1) (Nat.le_of_ble_eq_true hk3.2) hd g3
  | new n =>
    have hk2 := Bool.and_eq_true_iff.mp hk
    obtain rfl : len = 3 := Nat.eq_of_beq_eq_true hk2.1
    have hk3 := hk2.2
    change (match znew (zown m) n with
      | some 0 => match st with
        | .inl x :: .inr (some (2, 0)) :: r => if Nat.ble r.length 4 = true then zgd (decide (x = nI (t.2 + 1) ∧ t.2 + 1 < 1145)) (pc + 8) ls r (zrow t.1 (t.2 + 1), t.2 + 1) else none
        | _ => none
      | some (x + 1) => if Nat.ble st.length 4 = true then zend (.inr x) t else none
      | none => none) = _ at hx
    split at hx
    · rename_i hz
      split at hx
      · rename_i x r
        split at hx
        · rename_i hr
          obtain rfl := zgd_r hx
          rw [hz] at hk3
          have hb := (zK_gd K).1
          exact zs_row C hk3 hd hi (of_decide_eq_true hb).1 (of_decide_eq_true hb).2 (Nat.le_of_ble_eq_true hr) (zK_md K) (zK_gd K).2
        · cases hx
      · cases hx
    · rename_i x hz
      split at hx
      · rename_i hst
        obtain rfl := zend_r hx
        obtain ⟨rfl, rfl⟩ := zK_end K
        rw [hz] at hk3
        have hk4 := Bool.and_eq_true_iff.mp hk3
        have hk5 := Bool.and_eq_true_iff.mp hk4.1
        have hk6 := hk5.1
        split at hk6
        · rename_i ic h3 h4 h7
          exact zs_thr C (zx_ok _ (of_decide_eq_true hk6)) hd (hi h3) (hi h4) (hi h7) (Nat.le_of_ble_eq_true hk5.2) (Nat.le_of_ble_eq_true hk4.2) (Nat.le_of_ble_eq_true hst)
        · cases hk6
      · cases hx
    · cases hx
  | tableswitch d lo hi offs =>
    have hk2 := Bool.and_eq_true_iff.mp hk
    match st, hx with
    | .inl x :: r, hx =>
      change (match zsw d lo hi offs x with
        | some off => zgo (ztgt pc off) ls r t
        | none => none) = _ at hx
      split at hx
      · rename_i off hz
        obtain rfl := zgo_r hx
        replace K := zK_go K
        refine zs_tsw C hz ?_ hd K
        unfold zsw at hz
        split at hz
        · cases hz
          exact of_decide_eq_true hk2.1
        · have hmem : off ∈ offs.toList := by
            have := Array.mem_of_getElem? hz
            simpa using this
          exact of_decide_eq_true (List.all_eq_true.mp hk2.2 off hmem)
      · cases hx
  | lookupswitch d ps =>
    have hk2 := Bool.and_eq_true_iff.mp hk
    have hk3 := Bool.and_eq_true_iff.mp hk2.1
    match st, hx with
    | .inl x :: r, hx =>
      obtain rfl := zgo_r hx
      replace K := zK_go K
      refine zs_lsw C hk2.2 ?_ hd K
      have key : ∀ l : List (Int × Int), (∀ q ∈ l, 0 ≤ (pc : Int) + q.2) → 0 ≤ (pc : Int) + Op.lookupswitch.offset l d x.toInt := by
        intro l
        induction l with
        | nil => intro _; exact of_decide_eq_true hk3.1
        | cons q r ih =>
          intro hq
          obtain ⟨a, b⟩ := q
          rw [Op.lookupswitch.offset_cons]
          split
          · exact hq (a, b) List.mem_cons_self
          · exact ih fun q hq' => hq q (List.mem_cons_of_mem _ hq')
      exact key _ fun q hq => of_decide_eq_true (List.all_eq_true.mp hk3.2 q hq)
  | ifCond q off =>
    have hk2 := Bool.and_eq_true_iff.mp hk
    obtain rfl : len = 3 := Nat.eq_of_beq_eq_true hk2.1
    match st, hx with
    | .inl x :: r, hx =>
      obtain rfl := zbr_r hx
      exact zs_if C (of_decide_eq_true hk2.2) hd (zK_br K).1 (zK_br K).2
  | if_icmp q off =>
    have hk2 := Bool.and_eq_true_iff.mp hk
    obtain rfl : len = 3 := Nat.eq_of_beq_eq_true hk2.1
    match st, hx with
    | .inl y :: .inl x :: r, hx =>
      obtain rfl := zbr_r hx
      exact zs_cmp C (of_decide_eq_true hk2.2) hd (zK_br K).1 (zK_br K).2
  | ireturn =>
    obtain rfl : len = 1 := Nat.eq_of_beq_eq_true hk
    change (match st with
      | [.inl x] => match zrt m with
        | some .int => zend (.inl (some (.inl x))) t
        | some .boolean => if x = 0 ∨ x = 1 then zend (.inl (some (.inl x))) t else none
        | _ => none
      | _ => none) = _ at hx
    split at hx
    · split at hx
      · rename_i hr
        obtain rfl := zend_r hx
        obtain ⟨rfl, rfl⟩ := zK_end K
        exact zs_ret C (Or.inl hr) hd
      · rename_i hr
        split at hx
        · rename_i hb
          obtain rfl := zend_r hx
          obtain ⟨rfl, rfl⟩ := zK_end K
          exact zs_ret C (Or.inr ⟨hr, hb⟩) hd
        · cases hx
      · cases hx
    · cases hx
  | areturn =>
    obtain rfl : len = 1 := Nat.eq_of_beq_eq_true hk
    change (match st with
      | [.inr (some r)] => match zrt m with
        | some (.object _) => zend (.inl (some (.inr (some r)))) t
        | some (.array _) => zend (.inl (some (.inr (some r)))) t
        | _ => none
      | _ => none) = _ at hx
    split at hx
    · split at hx
      · rename_i hr
        obtain rfl := zend_r hx
        obtain ⟨rfl, rfl⟩ := zK_end K
        exact zs_aret C hr (Or.inl ⟨_, rfl⟩) hd
      · rename_i hr
        obtain rfl := zend_r hx
        obtain ⟨rfl, rfl⟩ := zK_end K
        exact zs_aret C hr (Or.inr ⟨_, rfl⟩) hd
      · cases hx
    · cases hx
  | return_ =>
    obtain rfl : len = 1 := Nat.eq_of_beq_eq_true hk
    change (match st with
      | [] => match zrt m with
        | none => zend (.inl none) t
        | some _ => none
      | _ => none) = _ at hx
    split at hx
    · split at hx
      · rename_i hr
        obtain rfl := zend_r hx
        obtain ⟨rfl, rfl⟩ := zK_end K
        exact zs_vret C hr hd
      · cases hx
    · cases hx
  | _ => cases hx
end ZS
