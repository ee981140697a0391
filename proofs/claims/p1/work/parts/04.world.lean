/-! The small machine's state as cells of the heap. -/
theorem znbeq {a b : Nat} (h : a ≠ b) : Nat.beq a b = false := by
  cases hb : Nat.beq a b with
  | false => rfl
  | true => exact absurd (Nat.eq_of_beq_eq_true hb) h
-- addresses of the objects, by kind and index
abbrev zA : Type := Nat → Nat → Nat
def zcv (ad : zA) (v : zV) : Value := match v with
  | .inl x => .int x
  | .inr none => .null
  | .inr (some (k, i)) => .ref (ad k i)
theorem zcv_cat (ad : zA) (v : zV) : (zcv ad v).category = 1 := by
  rcases v with x | _ | ⟨k, i⟩ <;> rfl
def zvok (md : Nat) (v : zV) : Bool := match v with
  | .inl _ => true
  | .inr none => true
  | .inr (some (k, i)) => zok md k i
theorem zok_mono {md md' k i : Nat} (h : md ≤ md') (hk : zok md k i = true) : zok md' k i = true := by
  unfold zok at hk ⊢
  by_cases h3 : k = 3
  · rw [if_pos h3] at hk ⊢
    simp only [decide_eq_true_eq] at hk ⊢
    omega
  · rw [if_neg h3] at hk ⊢
    exact hk
theorem zvok_mono {md md' : Nat} {v : zV} (h : md ≤ md') (hk : zvok md v = true) : zvok md' v = true := by
  rcases v with x | _ | ⟨k, i⟩
  · rfl
  · rfl
  · exact zok_mono h hk
def zExt (ad ad' : zA) (md : Nat) : Prop := ∀ k i, zok md k i = true → ad' k i = ad k i
theorem zExt.refl (ad : zA) (md : Nat) : zExt ad ad md := fun _ _ _ => rfl
theorem zExt.trans {ad ad1 ad2 : zA} {md md1 : Nat} (h1 : zExt ad ad1 md) (hm : md ≤ md1) (h2 : zExt ad1 ad2 md1) : zExt ad ad2 md := fun k i hk => (h2 k i (zok_mono hm hk)).trans (h1 k i hk)
theorem zcv_ext {ad ad' : zA} {md : Nat} {v : zV} (h : zExt ad ad' md) (hv : zvok md v = true) : zcv ad' v = zcv ad v := by
  rcases v with x | _ | ⟨k, i⟩
  · rfl
  · rfl
  · show Value.ref _ = Value.ref _
    rw [h k i hv]
theorem zmap_ext {ad ad' : zA} {md : Nat} {st : List zV} (h : zExt ad ad' md) (hv : ∀ v ∈ st, zvok md v = true) : st.map (zcv ad') = st.map (zcv ad) := List.map_congr_left fun v hm => zcv_ext h (hv v hm)
-- a field's value: 0 int, 1 boolean, q + 2 the object of kind q of the same index
def zfv (ad : zA) (S : zS) (k i e f : Nat) : Value := match e with
  | 0 => .int (S (64 * k + f) i 0)
  | 1 => .int (S (64 * k + f) i 0)
  | q + 2 => .ref (ad q i)
def zenF (ad : zA) (S : zS) (k i : Nat) (fs : List Nat) : List Value := (List.range fs.length).map (fun f => zfv ad S k i (fs.getD f 0) f)
theorem zenF_len (ad : zA) (S : zS) (k i : Nat) (fs : List Nat) : (zenF ad S k i fs).length = fs.length := by simp [zenF]
theorem zenF_get {ad : zA} {S : zS} {k i f e : Nat} {fs : List Nat} (h : fs[f]? = some e) : (zenF ad S k i fs)[f]? = some (zfv ad S k i e f) := by
  have hl := (List.getElem?_eq_some_iff.mp h).1
  unfold zenF
  rw [List.getElem?_map, List.getElem?_range hl]
  simp [List.getD, h]
theorem zenF_out {ad : zA} {S : zS} {k i f : Nat} {fs : List Nat} (h : fs[f]? = none) : (zenF ad S k i fs)[f]? = none := by
  rw [List.getElem?_eq_none_iff] at h ⊢
  rw [zenF_len]
  exact h
theorem zfv_zu {ad : zA} {S : zS} {k i k' i' f f' j e : Nat} {v : Int32} (h : ¬ (64 * k' + f' = 64 * k + f ∧ i' = i)) : zfv ad (zu S (64 * k + f) i j v) k' i' e f' = zfv ad S k' i' e f' := by
  have hz : zu S (64 * k + f) i j v (64 * k' + f') i' 0 = S (64 * k' + f') i' 0 := by
    unfold zu
    rw [if_neg (fun q => h ⟨q.1, q.2.1⟩)]
  match e with
  | 0 => exact congrArg Value.int hz
  | 1 => exact congrArg Value.int hz
  | _ + 2 => rfl
theorem zenF_set {ad : zA} {S : zS} {k i f e : Nat} {v : Int32} {fs : List Nat} (h : fs[f]? = some e) (he : e < 2) : (zenF ad S k i fs).set f (.int v) = zenF ad (zu S (64 * k + f) i 0 v) k i fs := by
  have hl := (List.getElem?_eq_some_iff.mp h).1
  apply List.ext_getElem?
  intro j
  by_cases hj : j = f
  · subst hj
    rw [List.getElem?_set_self (by rw [zenF_len]; exact hl), zenF_get h]
    match e, he with
    | 0, _ => simp [zfv, zu]
    | 1, _ => simp [zfv, zu]
  · rw [List.getElem?_set_ne (Ne.symm hj)]
    cases hq : fs[j]? with
    | none => rw [zenF_out hq, zenF_out hq]
    | some e' => rw [zenF_get hq, zenF_get hq, zfv_zu (fun q => hj (by omega))]
theorem zenF_congr {ad ad' : zA} {S S' : zS} {k i : Nat} {fs : List Nat} (h : ∀ f e, fs[f]? = some e → zfv ad' S' k i e f = zfv ad S k i e f) : zenF ad' S' k i fs = zenF ad S k i fs := by
  apply List.ext_getElem?
  intro j
  cases hq : fs[j]? with
  | none => rw [zenF_out hq, zenF_out hq]
  | some e' => rw [zenF_get hq, zenF_get hq, h j e' hq]
def zrefs (ad : zA) (md q : Nat) : Nat → Option Nat := fun j => (zel md q j).map (fun p => ad p.1 p.2)
def zenA (ad : zA) (t : zT) (k i e : Nat) : (Nat → Int32) ⊕ (Nat → Int64) ⊕ (Nat → UInt32) ⊕ (Nat → UInt64) ⊕ (Nat → Option Nat) := match e with
  | 0 => .inl (fun j => t.1 (64 * k) i j)
  | 1 => .inl (fun j => t.1 (64 * k) i j)
  | 2 => .inl (fun j => t.1 (64 * k) i j)
  | 3 => .inl (fun j => t.1 (64 * k) i j)
  | q + 4 => .inr (.inr (.inr (.inr (zrefs ad t.2 q))))
theorem zenA_lt {ad : zA} {t : zT} {k i e : Nat} (h : e < 4) : zenA ad t k i e = .inl (fun j => t.1 (64 * k) i j) := by
  match e, h with
  | 0, _ => rfl
  | 1, _ => rfl
  | 2, _ => rfl
  | 3, _ => rfl
def zenc (ty : Nat → ClassId) (ad : zA) (t : zT) (k i : Nat) : va_E := match zkind k with
  | .inl (c, fs) => .inr (c, zenF ad t.1 k i fs)
  | .inr (a, e, n) => .inl (ty a, n, zenA ad t k i e)
theorem zenc_o {ty : Nat → ClassId} {ad : zA} {t : zT} {k i c : Nat} {fs : List Nat} (h : zkind k = .inl (c, fs)) : zenc ty ad t k i = .inr (c, zenF ad t.1 k i fs) := by
  unfold zenc
  rw [h]
theorem zenc_a {ty : Nat → ClassId} {ad : zA} {t : zT} {k i a e n : Nat} (h : zkind k = .inr (a, e, n)) : zenc ty ad t k i = .inl (ty a, n, zenA ad t k i e) := by
  unfold zenc
  rw [h]
-- what the tables say of the kinds
def zkchk : Bool := (List.range 35).all fun k => match zkind k with
  | .inl (c, fs) => (match zcl[c]? with
    | some r => Nat.beq fs.length r.2.2 && Nat.ble fs.length 60 && (List.range fs.length).all fun f => match fs.getD f 0 with
      | 0 => decide (parseFieldDescriptor (r.2.1 f).2.2.1 = some .int) && !(r.2.1 f).2.2.2
      | 1 => decide (parseFieldDescriptor (r.2.1 f).2.2.1 = some .boolean) && !(r.2.1 f).2.2.2
      | q + 2 => Nat.ble q 34 && !(Nat.beq q 3) && !(Nat.beq k 3) && Nat.beq (zcnt q) (zcnt k)
    | none => false)
  | .inr (a, e, n) => Nat.blt n 2000 && !(Nat.beq k 3) && match e with
    | 0 => Nat.beq a 0
    | 1 => Nat.beq a 1
    | 2 => Nat.beq a 2
    | 3 => Nat.beq a 3
    | q + 4 => (Nat.beq a 4 && Nat.beq q 3 && Nat.beq k 2) || (Nat.beq a 5 && Nat.beq q 11) || (Nat.beq a 6 && Nat.beq q 8)
theorem zkchk_ok : zkchk = true := by decide +kernel
theorem zkind_out {k : Nat} (h : 35 ≤ k) : zkind k = .inr (9, 99, 0) := by
  unfold zkind
  rw [List.getD_eq_getElem?_getD, List.getElem?_eq_none (by exact h)]
  rfl
theorem zkfact {k : Nat} (h : k < 35) : (match zkind k with
  | .inl (c, fs) => (match zcl[c]? with
    | some r => Nat.beq fs.length r.2.2 && Nat.ble fs.length 60 && (List.range fs.length).all fun f => match fs.getD f 0 with
      | 0 => decide (parseFieldDescriptor (r.2.1 f).2.2.1 = some .int) && !(r.2.1 f).2.2.2
      | 1 => decide (parseFieldDescriptor (r.2.1 f).2.2.1 = some .boolean) && !(r.2.1 f).2.2.2
      | q + 2 => Nat.ble q 34 && !(Nat.beq q 3) && !(Nat.beq k 3) && Nat.beq (zcnt q) (zcnt k)
    | none => false)
  | .inr (a, e, n) => Nat.blt n 2000 && !(Nat.beq k 3) && match e with
    | 0 => Nat.beq a 0
    | 1 => Nat.beq a 1
    | 2 => Nat.beq a 2
    | 3 => Nat.beq a 3
    | q + 4 => (Nat.beq a 4 && Nat.beq q 3 && Nat.beq k 2) || (Nat.beq a 5 && Nat.beq q 11) || (Nat.beq a 6 && Nat.beq q 8)) = true := (List.all_eq_true.mp zkchk_ok) k (List.mem_range.mpr h)
theorem zok_lt {md k i : Nat} (h : zok md k i = true) : k < 35 := by
  by_cases hk : k < 35
  · exact hk
  · exfalso
    unfold zok at h
    rw [if_neg (by omega)] at h
    simp only [decide_eq_true_eq] at h
    unfold zcnt at h
    have e1 : Nat.beq k 8 = false := znbeq (by omega)
    have e2 : Nat.ble k 14 = false := by
      cases hb : Nat.ble k 14 with
      | false => rfl
      | true => have := Nat.le_of_ble_eq_true hb; omega
    have e3 : Nat.ble 35 k = true := Nat.ble_eq_true_of_le (by omega)
    rw [e1, e2, e3, Bool.and_false] at h
    simp at h
theorem zkind_o {k c : Nat} {fs : List Nat} (h : zkind k = .inl (c, fs)) : k < 35 ∧ ∃ r : vw_C, zcl[c]? = some r ∧ fs.length = r.2.2 ∧ fs.length ≤ 60 ∧ ∀ f e, fs[f]? = some e → match e with
    | 0 => parseFieldDescriptor (r.2.1 f).2.2.1 = some FieldType.int ∧ (r.2.1 f).2.2.2 = false
    | 1 => parseFieldDescriptor (r.2.1 f).2.2.1 = some FieldType.boolean ∧ (r.2.1 f).2.2.2 = false
    | q + 2 => q < 35 ∧ q ≠ 3 ∧ k ≠ 3 ∧ zcnt q = zcnt k := by
  have hk : k < 35 := by
    by_cases hk : k < 35
    · exact hk
    · rw [zkind_out (by omega)] at h
      cases h
  refine ⟨hk, ?_⟩
  have hf := zkfact hk
  rw [h] at hf
  dsimp only at hf
  cases hc : zcl[c]? with
  | none => rw [hc] at hf; cases hf
  | some r =>
    rw [hc] at hf
    simp only [Bool.and_eq_true] at hf
    refine ⟨r, rfl, Nat.eq_of_beq_eq_true hf.1.1, Nat.le_of_ble_eq_true hf.1.2, fun f e he => ?_⟩
    have hl := (List.getElem?_eq_some_iff.mp he).1
    have h2 := List.all_eq_true.mp hf.2 f (List.mem_range.mpr hl)
    have hg : fs.getD f 0 = e := by simp [List.getD, he]
    rw [hg] at h2
    match e, h2 with
    | 0, h2 =>
      simp only [Bool.and_eq_true, decide_eq_true_eq, Bool.not_eq_true'] at h2
      exact h2
    | 1, h2 =>
      simp only [Bool.and_eq_true, decide_eq_true_eq, Bool.not_eq_true'] at h2
      exact h2
    | q + 2, h2 =>
      simp only [Bool.and_eq_true, Bool.not_eq_true'] at h2
      exact ⟨by have := Nat.le_of_ble_eq_true h2.1.1.1; omega, Nat.ne_of_beq_eq_false h2.1.1.2, Nat.ne_of_beq_eq_false h2.1.2, Nat.eq_of_beq_eq_true h2.2⟩
theorem zkind_a {k a e n : Nat} (h : zkind k = .inr (a, e, n)) (hk : k < 35) : n < 2000 ∧ k ≠ 3 ∧ match e with
    | 0 => a = 0
    | 1 => a = 1
    | 2 => a = 2
    | 3 => a = 3
    | q + 4 => (a = 4 ∧ q = 3 ∧ k = 2) ∨ (a = 5 ∧ q = 11) ∨ (a = 6 ∧ q = 8) := by
  have hf := zkfact hk
  rw [h] at hf
  dsimp only at hf
  simp only [Bool.and_eq_true, Bool.not_eq_true'] at hf
  refine ⟨Nat.le_of_ble_eq_true hf.1.1, Nat.ne_of_beq_eq_false hf.1.2, ?_⟩
  match e, hf.2 with
  | 0, h2 => exact Nat.eq_of_beq_eq_true h2
  | 1, h2 => exact Nat.eq_of_beq_eq_true h2
  | 2, h2 => exact Nat.eq_of_beq_eq_true h2
  | 3, h2 => exact Nat.eq_of_beq_eq_true h2
  | q + 4, h2 =>
    simp only [Bool.or_eq_true, Bool.and_eq_true] at h2
    rcases h2 with (h2 | h2) | h2
    · exact Or.inl ⟨Nat.eq_of_beq_eq_true h2.1.1, Nat.eq_of_beq_eq_true h2.1.2, Nat.eq_of_beq_eq_true h2.2⟩
    · exact Or.inr (Or.inl ⟨Nat.eq_of_beq_eq_true h2.1, Nat.eq_of_beq_eq_true h2.2⟩)
    · exact Or.inr (Or.inr ⟨Nat.eq_of_beq_eq_true h2.1, Nat.eq_of_beq_eq_true h2.2⟩)
-- a write to one object leaves the others as they are
theorem zenc_ne {ty : Nat → ClassId} {ad : zA} {t : zT} {k i k' i' f j : Nat} {v : Int32} (hf : f < 60) (h : ¬ (k' = k ∧ i' = i)) : zenc ty ad (zu t.1 (64 * k + f) i j v, t.2) k' i' = zenc ty ad t k' i' := by
  cases hz : zkind k' with
  | inl q =>
    obtain ⟨c, fs⟩ := q
    rw [zenc_o hz, zenc_o hz]
    have hl : fs.length ≤ 60 := by
      obtain ⟨-, r, -, -, hl, -⟩ := zkind_o hz
      exact hl
    rw [zenF_congr (S := t.1) (ad := ad) fun f' e' he => zfv_zu (fun q => h (by have := (List.getElem?_eq_some_iff.mp he).1; omega))]
  | inr q =>
    obtain ⟨a, e, n⟩ := q
    rw [zenc_a hz, zenc_a hz]
    have hx : (fun j' => zu t.1 (64 * k + f) i j v (64 * k') i' j') = fun j' => t.1 (64 * k') i' j' := by
      funext j'
      unfold zu
      rw [if_neg (fun q => h (by omega))]
    match e with
    | 0 => rw [zenA_lt (by decide), zenA_lt (by decide)]; rw [hx]
    | 1 => rw [zenA_lt (by decide), zenA_lt (by decide)]; rw [hx]
    | 2 => rw [zenA_lt (by decide), zenA_lt (by decide)]; rw [hx]
    | 3 => rw [zenA_lt (by decide), zenA_lt (by decide)]; rw [hx]
    | q + 4 => rfl
def zl (ty : Nat → ClassId) (ad : zA) (t : zT) (L : List (Nat × Nat)) : va_W := L.map (fun p => (ad p.1 p.2, zenc ty ad t p.1 p.2))
abbrev ztys (ty : Nat → ClassId) : List (ClassId × FieldType) := [(ty 0, .int), (ty 1, .byte), (ty 2, .short), (ty 3, .boolean), (ty 4, .object "PageKeeper$LogRow"), (ty 5, .object "PageKeeper$Page"), (ty 6, .array .int)]
-- the cells that may change: the world's, and the new ones
def zAr (ad : zA) (md sz : Nat) : Nat → Prop := fun q => (∃ k i, zok md k i = true ∧ q = ad k i) ∨ sz ≤ q
theorem zAr.ext {ad ad' : zA} {md md' sz q : Nat} (he : zExt ad ad' md) (hm : md ≤ md') (h : zAr ad md sz q) : zAr ad' md' sz q := by
  rcases h with ⟨k, i, h1, h2⟩ | h
  · exact Or.inl ⟨k, i, zok_mono hm h1, by rw [he k i h1]; exact h2⟩
  · exact Or.inr h
def zWL (D : va_G) (ty : Nat → ClassId) (ad : zA) (t : zT) (H : Heap) (L : List (Nat × Nat)) : Prop := (∀ k i, zok t.2 k i = true → (k, i) ∈ L) ∧ (∀ p ∈ L, zok t.2 p.1 p.2 = true) ∧ va_P D zcl (zl ty ad t L) H ∧ va_D (fun _ => True) (zl ty ad t L)
def zW (D : va_G) (ty : Nat → ClassId) (ad : zA) (t : zT) (H : Heap) : Prop := ∃ L : List (Nat × Nat), zWL D ty ad t H L
theorem zl_get {ty : Nat → ClassId} {ad : zA} {t : zT} {L : List (Nat × Nat)} {k i q0 : Nat} (h : L[q0]? = some (k, i)) : (zl ty ad t L)[q0]? = some (ad k i, zenc ty ad t k i) := by
  unfold zl
  rw [List.getElem?_map, h]
  rfl
theorem zl_inv {ty : Nat → ClassId} {ad : zA} {t : zT} {L : List (Nat × Nat)} {q0 : Nat} {x : Nat × va_E} (h : (zl ty ad t L)[q0]? = some x) : ∃ k i, L[q0]? = some (k, i) ∧ x = (ad k i, zenc ty ad t k i) := by
  unfold zl at h
  rw [List.getElem?_map] at h
  cases hp : L[q0]? with
  | none => rw [hp] at h; cases h
  | some p =>
    rw [hp] at h
    exact ⟨p.1, p.2, rfl, (Option.some.inj h).symm⟩
theorem zWL.pos {D : va_G} {ty : Nat → ClassId} {ad : zA} {t : zT} {H : Heap} {L : List (Nat × Nat)} {k i : Nat} (h : zWL D ty ad t H L) (hk : zok t.2 k i = true) : ∃ q0 : Nat, L[q0]? = some (k, i) := List.getElem?_of_mem (h.1 k i hk)
theorem zWL.dd {D : va_G} {ty : Nat → ClassId} {ad : zA} {t : zT} {H : Heap} {L : List (Nat × Nat)} (h : zWL D ty ad t H L) (sz : Nat) : va_D (zAr ad t.2 sz) (zl ty ad t L) := by
  refine ⟨h.2.2.2.1, fun q0 x hx => ?_⟩
  obtain ⟨k, i, h1, h2⟩ := zl_inv hx
  rw [h2]
  exact Or.inl ⟨k, i, h.2.1 (k, i) (List.mem_of_getElem? h1), rfl⟩
theorem zl_set {ty : Nat → ClassId} {ad : zA} {t t' : zT} {L : List (Nat × Nat)} {A : Nat → Prop} {k i q0 : Nat} (hD : va_D A (zl ty ad t L)) (h : L[q0]? = some (k, i)) (he : ∀ k' i', ¬ (k' = k ∧ i' = i) → zenc ty ad t' k' i' = zenc ty ad t k' i') : (zl ty ad t L).set q0 (ad k i, zenc ty ad t' k i) = zl ty ad t' L := by
  apply List.ext_getElem?
  intro j
  by_cases hj : j = q0
  · subst hj
    have hl : j < (zl ty ad t L).length := (List.getElem?_eq_some_iff.mp (zl_get h)).1
    rw [List.getElem?_set_self hl, zl_get h]
  · rw [List.getElem?_set_ne (Ne.symm hj)]
    cases hp : L[j]? with
    | none =>
      unfold zl
      rw [List.getElem?_map, List.getElem?_map, hp]
      rfl
    | some p =>
      obtain ⟨k', i'⟩ := p
      rw [zl_get hp, zl_get hp]
      have hne : ¬ (k' = k ∧ i' = i) := by
        intro e
        rw [e.1, e.2] at hp
        exact hj (hD.1 j q0 _ _ (zl_get hp) (zl_get h) rfl)
      rw [he k' i' hne]
-- the world behind a write
theorem zWL.wr {D : va_G} {ty : Nat → ClassId} {ad : zA} {t : zT} {H H1 : Heap} {L : List (Nat × Nat)} {A : Nat → Prop} {k i f j q0 : Nat} {v : Int32} (h : zWL D ty ad t H L) (hq : L[q0]? = some (k, i)) (hf : f < 60)
    (hP : va_P D zcl ((zl ty ad t L).set q0 (ad k i, zenc ty ad (zu t.1 (64 * k + f) i j v, t.2) k i)) H1) (hD : va_D A ((zl ty ad t L).set q0 (ad k i, zenc ty ad (zu t.1 (64 * k + f) i j v, t.2) k i))) : zW D ty ad (zu t.1 (64 * k + f) i j v, t.2) H1 := by
  have e := zl_set (t' := (zu t.1 (64 * k + f) i j v, t.2)) h.2.2.2 hq (fun k' i' hne => zenc_ne hf hne)
  rw [e] at hP hD
  exact ⟨L, h.1, h.2.1, hP, hD.1, fun _ _ _ => trivial⟩
-- a cell of the world is no statics cell
theorem zW_vm {D : va_G} {ty : Nat → ClassId} {ad : zA} {t : zT} {H : Heap} {k i : Nat} (h : zW D ty ad t H) (hk : zok t.2 k i = true) : ∃ cell : Cell, H[ad k i]? = some cell ∧ cell.vm = .none := by
  obtain ⟨L, hL⟩ := h
  obtain ⟨q0, hq⟩ := hL.pos hk
  have ha := hL.2.2.1 q0 _ (zl_get hq)
  cases hz : zkind k with
  | inl q =>
    obtain ⟨c, fs⟩ := q
    rw [zenc_o hz] at ha
    obtain ⟨r, -, cell, h1, -, h3, -⟩ := ha
    exact ⟨cell, h1, h3⟩
  | inr q =>
    obtain ⟨a, e, n⟩ := q
    rw [zenc_a hz] at ha
    refine ⟨_, ha, ?_⟩
    show (vp_cell _ _).vm = _
    unfold vp_cell
    split <;> rfl
theorem zW_heap {D : va_G} {ty : Nat → ClassId} {ad : zA} {t : zT} {H H1 : Heap} (h : zW D ty ad t H) (hq : ∀ q, q < H.size → H1[q]? = H[q]?) : zW D ty ad t H1 := by
  obtain ⟨L, h1, h2, h3, h4⟩ := h
  exact ⟨L, h1, h2, h3.kept (fun k x hx => hq x.1 ((h3 k x hx).lt)), h4⟩
