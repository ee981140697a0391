/-! The small machine: values, state, one instruction, runs. The tables (zkind, zins, zfld, zcal, znew, zmet) stand ahead of this text. -/
-- an int, or a reference: none is null, (k, i) the i-th object of kind k
abbrev zV : Type := Int32 ⊕ Option (Nat × Nat)
-- code (64 * kind + field, 64 * kind for an array), object, place
abbrev zS : Type := Nat → Nat → Nat → Int32
-- and how many log rows are made
abbrev zT : Type := zS × Nat
-- returned, or threw an object of a class with this number
abbrev zO : Type := Option zV ⊕ Nat
-- pc, locals, stack, state
abbrev zC : Type := Nat × List (Option zV) × List zV × zT
-- what one instruction does: goes on if the guard holds; ends; branches; calls (method, arguments, rest of the stack, next pc)
abbrev zR : Type := (Bool × zC) ⊕ ((zO × zT) ⊕ ((Bool × Nat × Nat × List zV) ⊕ (Nat × List zV × List zV × Nat)))
def zu (S : zS) (f i j : Nat) (v : Int32) : zS := fun f' i' j' => if f' = f ∧ i' = i ∧ j' = j then v else S f' i' j'
theorem zu_self (S : zS) (f i j : Nat) (v : Int32) : zu S f i j v f i j = v := by simp [zu]
theorem zu_f (S : zS) {f i j f' i' j' : Nat} (v : Int32) (h : f' ≠ f) : zu S f i j v f' i' j' = S f' i' j' := by simp [zu, h]
theorem zu_i (S : zS) {f i j f' i' j' : Nat} (v : Int32) (h : i' ≠ i) : zu S f i j v f' i' j' = S f' i' j' := by simp [zu, h]
theorem zu_j (S : zS) {f i j f' i' j' : Nat} (v : Int32) (h : j' ≠ j) : zu S f i j v f' i' j' = S f' i' j' := by simp [zu, h]
-- a row of the log that is made anew: all its fields are 0
def zrow (S : zS) (k : Nat) : zS := fun f i j => if f / 64 = 3 ∧ i = k then 0 else S f i j
def zint (n : Int) : Int32 := match n with
  | .ofNat k => nI k
  | .negSucc k => Int32.ofInt (.negSucc k)
def zld (ls : List (Option zV)) (i : Nat) : Option zV := match ls[i]? with
  | some (some v) => some v
  | _ => none
def zpush (v : Option zV) (st : List zV) : List zV := match v with
  | none => st
  | some x => x :: st
def zcmp (c : ClassFile.Cond) (x y : Int32) : Bool := match c with
  | .eq => decide (x = y)
  | .ne => decide (¬ x = y)
  | .lt => decide (x < y)
  | .ge => decide (y ≤ x)
  | .gt => decide (y < x)
  | .le => decide (x ≤ y)
def zsw (d lo hi : Int) (offs : Array Int) (x : Int32) : Option Int := if x.toInt < lo ∨ hi < x.toInt then some d else offs[(x.toInt - lo).toNat]?
def ztgt (pc : Nat) (off : Int) : Nat := ((pc : Int) + off).toNat
def zin (x : Int32) (n : Nat) : Bool := decide (¬ (x < 0 ∨ n ≤ x.toNatClampNeg))
-- valid objects: kind 3 is the log's rows
def zok (made k i : Nat) : Bool := if k = 3 then decide (1 ≤ i ∧ i ≤ made) else decide (i < zcnt k)
-- an element of an array of references of kind k
def zel (made k j : Nat) : Option (Nat × Nat) := if zok made k j = true then some (k, j) else none
def zgo (pc : Nat) (ls : List (Option zV)) (st : List zV) (t : zT) : Option zR := some (.inl (true, pc, ls, st, t))
def zgd (b : Bool) (pc : Nat) (ls : List (Option zV)) (st : List zV) (t : zT) : Option zR := some (.inl (b, pc, ls, st, t))
def zbr (b : Bool) (p1 p2 : Nat) (st : List zV) : Option zR := some (.inr (.inr (.inl (b, p1, p2, st))))
def zend (o : zO) (t : zT) : Option zR := some (.inr (.inl (o, t)))
-- tables used here: zkind k : (class number, fields: 0 int, 1 boolean, q + 2 reference to kind q) or (array type, element: 0 int, 1 byte, 2 short, 3 boolean, q + 4 reference to kind q, length)
-- zfld own index : class number and field; zcal own index : callee and how many arguments with the receiver; znew own index : 0 a log row, x + 1 a throwable of number x
def zcls (k c : Nat) : Bool := match zkind k with
  | .inl (c', _) => Nat.beq c' c
  | .inr _ => false
def zget (k i f : Nat) (t : zT) : Option zV := match zkind k with
  | .inl (_, fs) => match fs[f]? with
    | some 0 => some (.inl (t.1 (64 * k + f) i 0))
    | some 1 => some (.inl (t.1 (64 * k + f) i 0))
    | some (q + 2) => some (.inr (some (q, i)))
    | none => none
  | .inr _ => none
def zload (el pc : Nat) (ls : List (Option zV)) (st : List zV) (t : zT) : Option zR := match st with
  | .inl x :: .inr (some (k, i)) :: r => match zkind k with
    | .inr (_, e, n) => if e = el then zgd (zin x n) (pc + 1) ls (.inl (t.1 (64 * k) i x.toNatClampNeg) :: r) t else none
    | .inl _ => none
  | _ => none
def zstore (el : Nat) (nar : Int32 → Int32) (pc : Nat) (ls : List (Option zV)) (st : List zV) (t : zT) : Option zR := match st with
  | .inl v :: .inl x :: .inr (some (k, i)) :: r => match zkind k with
    | .inr (_, e, n) => if e = el then zgd (zin x n) (pc + 1) ls r (zu t.1 (64 * k) i x.toNatClampNeg (nar v), t.2) else none
    | .inl _ => none
  | _ => none
-- the receiver of a call: an object of the callee's class
def zrecv (m : Nat) (as : List zV) : Bool := match as with
  | .inr (some (k, _)) :: _ => zcls k (zown m)
  | _ => false
def zcall (virt : Bool) (own index pc : Nat) (st : List zV) : Option zR := match zcal own index with
  | none => none
  | some (m, n) => if (Nat.ble n st.length && Nat.ble st.length (n + 8) && (bif virt then zrecv m (st.take n).reverse else true) && (zstat m != virt)) = true then some (.inr (.inr (.inr (m, (st.take n).reverse, st.drop n, pc + 3)))) else none
def zari (f : Int32 → Int32 → Int32) (pc : Nat) (ls : List (Option zV)) (st : List zV) (t : zT) : Option zR := match st with
  | .inl y :: .inl x :: r => zgo (pc + 1) ls (.inl (f x y) :: r) t
  | _ => none
def zmono (f : Int32 → Int32) (pc : Nat) (ls : List (Option zV)) (st : List zV) (t : zT) : Option zR := match st with
  | .inl x :: r => zgo (pc + 1) ls (.inl (f x) :: r) t
  | _ => none
def zil (i len pc : Nat) (ls : List (Option zV)) (st : List zV) (t : zT) : Option zR := match zld ls i with
  | some (.inl x) => zgo (pc + len) ls (.inl x :: st) t
  | _ => none
def zal (i len pc : Nat) (ls : List (Option zV)) (st : List zV) (t : zT) : Option zR := match zld ls i with
  | some (.inr (some r)) => zgo (pc + len) ls (.inr (some r) :: st) t
  | _ => none
def zis (i len pc : Nat) (ls : List (Option zV)) (st : List zV) (t : zT) : Option zR := match st with
  | .inl x :: r => if i < ls.length then zgo (pc + len) (ls.set i (some (.inl x))) r t else none
  | _ => none
def zas (i len pc : Nat) (ls : List (Option zV)) (st : List zV) (t : zT) : Option zR := match st with
  | .inr (some x) :: r => if i < ls.length then zgo (pc + len) (ls.set i (some (.inr (some x)))) r t else none
  | _ => none
-- rt: the method's return type
def zex (own : Nat) (rt : Option FieldType) (pc len : Nat) (i : Instr) (ls : List (Option zV)) (st : List zV) (t : zT) : Option zR := match i with
  | .iconst n => zgo (pc + 1) ls (.inl (zint n) :: st) t
  | .bipush (.ofNat n) => if n < 128 then zgo (pc + 2) ls (.inl (nI n) :: st) t else none
  | .sipush (.ofNat n) => if n < 32768 then zgo (pc + 3) ls (.inl (nI n) :: st) t else none
  | .iload n => zil n len pc ls st t
  | .iload_n n => zil n.val 1 pc ls st t
  | .aload n => zal n len pc ls st t
  | .aload_n n => zal n.val 1 pc ls st t
  | .istore n => zis n len pc ls st t
  | .istore_n n => zis n.val 1 pc ls st t
  | .astore n => zas n len pc ls st t
  | .astore_n n => zas n.val 1 pc ls st t
  | .iinc n d => match zld ls n with
    | some (.inl x) => if n < ls.length then zgo (pc + 3) (ls.set n (some (.inl (x + zint d)))) st t else none
    | _ => none
  | .dup => match st with
    | a :: r => zgo (pc + 1) ls (a :: a :: r) t
    | _ => none
  | .dup_x1 => match st with
    | a :: b :: r => zgo (pc + 1) ls (a :: b :: a :: r) t
    | _ => none
  | .dup2 => match st with
    | a :: b :: r => zgo (pc + 1) ls (a :: b :: a :: b :: r) t
    | _ => none
  | .pop => match st with
    | _ :: r => zgo (pc + 1) ls r t
    | _ => none
  | .iadd => zari (fun x y => x + y) pc ls st t
  | .isub => zari (fun x y => x - y) pc ls st t
  | .imul => zari (fun x y => x * y) pc ls st t
  | .idiv => match st with
    | .inl y :: .inl x :: r => zgd (decide (¬ y = 0)) (pc + 1) ls (.inl (x / y) :: r) t
    | _ => none
  | .irem => match st with
    | .inl y :: .inl x :: r => zgd (decide (¬ y = 0)) (pc + 1) ls (.inl (x - x / y * y) :: r) t
    | _ => none
  | .i2b => zmono (fun x => x.toInt8.toInt32) pc ls st t
  | .i2s => zmono (fun x => x.toInt16.toInt32) pc ls st t
  | .ifCond c off => match st with
    | .inl x :: r => zbr (zcmp c x 0) (ztgt pc off) (pc + 3) r
    | _ => none
  | .if_icmp c off => match st with
    | .inl y :: .inl x :: r => zbr (zcmp c x y) (ztgt pc off) (pc + 3) r
    | _ => none
  | .ifnonnull off => match st with
    | .inr none :: r => zgo (pc + 3) ls r t
    | .inr (some _) :: r => zgo (ztgt pc off) ls r t
    | _ => none
  | .ifnull off => match st with
    | .inr none :: r => zgo (ztgt pc off) ls r t
    | .inr (some _) :: r => zgo (pc + 3) ls r t
    | _ => none
  | .goto off => zgo (ztgt pc off) ls st t
  | .getfield n => match st with
    | .inr (some (k, i)) :: r => match zfld own n with
      | some (c, f) => if zcls k c = true then (match zget k i f t with
        | some v => zgo (pc + 3) ls (v :: r) t
        | none => none) else none
      | none => none
    | _ => none
  | .putfield n => match st with
    | .inl v :: .inr (some (k, i)) :: r => match zfld own n with
      | some (c, f) => match zkind k with
        | .inl (c', fs) => if c' = c then (match fs[f]? with
          | some 0 => zgo (pc + 3) ls r (zu t.1 (64 * k + f) i 0 v, t.2)
          | some 1 => zgd (decide (v = 0 ∨ v = 1)) (pc + 3) ls r (zu t.1 (64 * k + f) i 0 v, t.2)
          | _ => none) else none
        | .inr _ => none
      | none => none
    | _ => none
  | .iaload => zload 0 pc ls st t
  | .saload => zload 2 pc ls st t
  | .baload => match st with
    | .inl _ :: .inr (some (k, _)) :: _ => match zkind k with
      | .inr (_, 3, _) => zload 3 pc ls st t
      | _ => zload 1 pc ls st t
    | _ => none
  | .iastore => zstore 0 (fun x => x) pc ls st t
  | .sastore => zstore 2 (vp_nar .short) pc ls st t
  | .bastore => match st with
    | .inl _ :: .inl _ :: .inr (some (k, _)) :: _ => match zkind k with
      | .inr (_, 3, _) => zstore 3 (vp_nar .boolean) pc ls st t
      | _ => zstore 1 (vp_nar .byte) pc ls st t
    | _ => none
  | .aaload => match st with
    | .inl x :: .inr (some (k, _)) :: r => match zkind k with
      | .inr (_, q + 4, n) => zgd (zin x n) (pc + 1) ls (.inr (zel t.2 q x.toNatClampNeg) :: r) t
      | _ => none
    | _ => none
  | .invokevirtual n => zcall true own n pc st
  | .invokestatic n => match zcal own n with
    | some (999, _) => match st with
      | .inl y :: .inl x :: r => if Nat.ble r.length 8 = true then zgo (pc + 3) ls (.inl (if x < y then y else x) :: r) t else none
      | _ => none
    | _ => zcall false own n pc st
  | .new n => match znew own n with
    | some 0 => match st with
      | .inl x :: .inr (some (2, 0)) :: r => if Nat.ble r.length 4 = true then zgd (decide (x = nI (t.2 + 1) ∧ t.2 + 1 < 1145)) (pc + 8) ls r (zrow t.1 (t.2 + 1), t.2 + 1) else none
      | _ => none
    | some (x + 1) => if Nat.ble st.length 4 = true then zend (.inr x) t else none
    | none => none
  | .ireturn => match st with
    | [.inl x] => match rt with
      | some .int => zend (.inl (some (.inl x))) t
      | some .boolean => if x = 0 ∨ x = 1 then zend (.inl (some (.inl x))) t else none
      | _ => none
    | _ => none
  | .areturn => match st with
    | [.inr (some r)] => match rt with
      | some (.object _) => zend (.inl (some (.inr (some r)))) t
      | some (.array _) => zend (.inl (some (.inr (some r)))) t
      | _ => none
    | _ => none
  | .return_ => match st with
    | [] => match rt with
      | none => zend (.inl none) t
      | some _ => none
    | _ => none
  | .tableswitch d lo hi offs => match st with
    | .inl x :: r => match zsw d lo hi offs x with
      | some off => zgo (ztgt pc off) ls r t
      | none => none
    | _ => none
  | .lookupswitch d ps => match st with
    | .inl x :: r => zgo (ztgt pc (Op.lookupswitch.offset ps.toList d x.toInt)) ls r t
    | _ => none
  | _ => none
def zone (m : Nat) (c : zC) : Option zR := match c with
  | (pc, ls, st, t) => match zins m pc with
    | some (i, len) => zex (zown m) (zrt m) pc len i ls st t
    | none => none
def zent (m : Nat) (as : List zV) : List (Option zV) := as.map some ++ List.replicate (zlocs m - as.length) none
def zrun : Nat → Nat → zC → Option (zO × zT)
  | 0, _, _ => none
  | n + 1, m, (pc, ls, st, t) => match zone m (pc, ls, st, t) with
    | none => none
    | some (.inl (b, c)) => if b = true then zrun n m c else none
    | some (.inr (.inl o)) => some o
    | some (.inr (.inr (.inl (b, p1, p2, st')))) => if b = true then zrun n m (p1, ls, st', t) else zrun n m (p2, ls, st', t)
    | some (.inr (.inr (.inr (m', as, rest, pc')))) => match zrun n m' (0, zent m' as, [], t) with
      | none => none
      | some (.inl v, t') => zrun n m (pc', ls, zpush v rest, t')
      | some (.inr x, t') => some (.inr x, t')
def zwp (m : Nat) (c : zC) (Q : zO → zT → Prop) : Prop := ∃ (n : Nat) (o : zO) (t : zT), zrun n m c = some (o, t) ∧ Q o t
-- steps without guard, branch, call or end
def zblk : Nat → Nat → zC → Option zC
  | 0, _, c => some c
  | n + 1, m, c => match zone m c with
    | some (.inl (true, c')) => zblk n m c'
    | _ => none
