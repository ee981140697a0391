/-! The theorem: what the small machine does, the machine does. -/
def zmd (md : Nat) (r : zR) : Prop := match r with
  | .inl (_, c) => md ≤ c.2.2.2.2
  | .inr (.inl (_, t)) => md ≤ t.2
  | _ => True
theorem zmd_of {own pc len : Nat} {rt : Option FieldType} {i : Instr} {ls : List (Option zV)} {st : List zV} {t : zT} {r : zR} (h : zex own rt pc len i ls st t = some r) : zmd t.2 r := by
  cases i
  all_goals first
    | (cases h; done)
    | skip
  all_goals simp only [zex, zil, zal, zis, zas, zari, zmono, zload, zstore, zcall, zgo, zgd, zbr, zend] at h
  all_goals (repeat' split at h)
  all_goals first
    | (cases h; done)
    | (cases h; exact Nat.le_refl _)
    | (cases h; exact Nat.le_succ _)
    | (cases h; exact trivial)
theorem zrun_md : ∀ (n m : Nat) (c : zC) (o : zO) (t' : zT), zrun n m c = some (o, t') → c.2.2.2.2 ≤ t'.2
  | 0, _, _, _, _, h => by cases h
  | n + 1, m, (pc, ls, st, t), o, t', h => by
    rw [zrun_s] at h
    cases hz : zone m (pc, ls, st, t) with
    | none => rw [hz] at h; cases h
    | some r =>
      rw [hz] at h
      have hmd : zmd t.2 r := by
        unfold zone at hz
        dsimp only at hz
        split at hz
        · exact zmd_of hz
        · cases hz
      rcases r with ⟨b, c'⟩ | ⟨o1, t1⟩ | ⟨b, p1, p2, st'⟩ | ⟨m', as, rest, pc'⟩
      · dsimp only at h
        cases b with
        | false => cases h
        | true => exact Nat.le_trans hmd (zrun_md n m c' o t' h)
      · cases h
        exact hmd
      · dsimp only at h
        cases b with
        | false => exact zrun_md n m (p2, ls, st', t) o t' h
        | true => exact zrun_md n m (p1, ls, st', t) o t' h
      · dsimp only at h
        cases hc : zrun n m' (0, zent m' as, [], t) with
        | none => rw [hc] at h; cases h
        | some q =>
          obtain ⟨o1, t1⟩ := q
          rw [hc] at h
          have h1 := zrun_md n m' _ o1 t1 hc
          cases o1 with
          | inl v => exact Nat.le_trans h1 (zrun_md n m (pc', ls, zpush v rest, t1) o t' h)
          | inr x =>
            cases h
            exact h1
theorem zsound {l : Launch} (htr : ∀ e, l.admits e → e.platform.stackTraces = false) (D : va_G) (ty : Nat → ClassId) : ∀ (n m pc : Nat) (ls : List (Option zV)) (st : List zV) (t : zT) (o : zO) (t' : zT), zrun n m (pc, ls, st, t) = some (o, t') →
    ∀ (p : Program) (e : Env) (R : Room) (s : State) (m0 : MethodId) (args : Array Value) (below : List Frame) (meth : Method) (c : Code) (A : Nat → Prop), zCx p l e R s m0 args meth c D ty A m → zOK p l e R s m0 args below meth c D ty A m pc ls st t o t'
  | 0, _, _, _, _, _, _, _, h => by cases h
  | n + 1, m, pc, ls, st, t, o, t', h => by
    intro p e R s m0 args below meth c A C
    rw [zrun_s] at h
    cases hz : zone m (pc, ls, st, t) with
    | none => rw [hz] at h; cases h
    | some r =>
      rw [hz] at h
      unfold zone at hz
      dsimp only at hz
      split at hz
      · rename_i i len hi
        obtain ⟨hm, hd, hk⟩ := zins_ok hi
        refine zstep htr C (zm_ok hm).2.2.2.2.2.2.2.1 hd hk (fun hq => (zins_ok hq).2.1) hz ?_
        rcases r with ⟨b, pc', ls', st', t1⟩ | ⟨o1, t1⟩ | ⟨b, p1, p2, st'⟩ | ⟨m', as, rest, pc'⟩
        · dsimp only at h
          cases b with
          | false => cases h
          | true => exact ⟨rfl, zrun_md n m _ o t' h, zsound htr D ty n m pc' ls' st' t1 o t' h p e R s m0 args below meth c A C⟩
        · cases h
          exact ⟨rfl, rfl⟩
        · dsimp only at h
          refine ⟨fun hb => ?_, fun hb => ?_⟩
          · subst hb
            exact zsound htr D ty n m p1 ls st' t o t' h p e R s m0 args below meth c A C
          · subst hb
            exact zsound htr D ty n m p2 ls st' t o t' h p e R s m0 args below meth c A C
        · dsimp only at h
          cases hc : zrun n m' (0, zent m' as, [], t) with
          | none => rw [hc] at h; cases h
          | some q =>
            obtain ⟨o1, t1⟩ := q
            rw [hc] at h
            cases o1 with
            | inl v => exact Or.inl ⟨v, t1, zrun_md n m' _ _ t1 hc, zrun_md n m _ o t' h, fun p e R s m0 args below meth c A C => zsound htr D ty n m' 0 (zent m' as) [] t (.inl v) t1 hc p e R s m0 args below meth c A C, zsound htr D ty n m pc' ls (zpush v rest) t1 o t' h p e R s m0 args below meth c A C⟩
            | inr x =>
              cases h
              exact Or.inr ⟨x, rfl, fun p e R s m0 args below meth c A C => zsound htr D ty n m' 0 (zent m' as) [] t (.inr x) t' hc p e R s m0 args below meth c A C⟩
      · cases hz
