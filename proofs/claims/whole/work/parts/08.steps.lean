/-! One step of the mini machine is the machine's own: stack, numbers, locals, branches. -/
/-- the words of nest mates' constructors -/
def mNst : List Cond := lw_tbl.filter (fun w => match w with | .methodLinkNest _ _ _ _ => true | _ => false)
/-- what stands fast while a method runs -/
def mCx (p : Program) (s : State) (m : MethodId) (args : Array Value) (meth : Method) (c : Code) (R : Room) (D : va_G) (cT : FieldType → ClassId) (A : Nat → Prop) (g : mG) (d : Nat) : Prop :=
  p.tables.exec = Jvm.exec ∧ c.code = g.2.1 ∧ c.maxLocals = g.2.2.1 ∧ meth.sig.returnType = g.2.2.2.1 ∧ meth.locks = false ∧ s.vm.findClass (mOw g.2.2.2.2.1) = some m.cls ∧ (∀ w ∈ mTb, w.before args s = true) ∧ (∀ w ∈ mNst, va_Nw w s) ∧ va_K D mCl (mTys cT) s ∧ (∀ q, s.heap.size ≤ q → A q) ∧ g.2.2.2.2.1 < 12 ∧ (g.2.2.2.2.2.2.2 = true → meth.name = "<init>" ∧ ∃ q, mCl[g.2.2.2.2.2.2.1]? = some q ∧ q.1 = mOw g.2.2.2.2.1) ∧ d ≤ R.frames ∧ 64 * d ≤ R.locals
section MST
variable {p : Program} {l : Launch} {e : Env} {R : Room} {s : State} {m : MethodId} {args : Array Value} {below : List Frame} {meth : Method} {c : Code} {H : Heap} {locs : List Loc} {Q : State → Prop} {cells slots : Nat}
variable {D : va_G} {cT : FieldType → ClassId} {A : Nat → Prop} {g : mG} {d : Nat} {m0 mm : mMem} {φ0 φ : Nat → Nat} {L : mLo} {S : List Value} {ls : Array Slot} {nL pc : Nat} {i : Instr}
/-- goes on with the same memory: what is to be shown behind -/
def mK1 (p : Program) (l : Launch) (e : Env) (R : Room) (s : State) (m : MethodId) (args : Array Value) (below : List Frame) (meth : Method) (c : Code) (H : Heap) (locs : List Loc) (cells slots : Nat) (Q : State → Prop) (φ : Nat → Nat) (mm : mMem) (nL : Nat) (pc : Nat) (L : mLo) (S : List Value) : Prop :=
  ∀ ls, mFr φ mm L S ls nL → W p l e R s m args below meth c H locs cells slots Q (F0 m pc ls (S.map (mCv φ)))
/-- instructions that touch no memory -/
def mPure : Instr → Bool
  | .iconst _ | .lconst _ | .bipush _ | .sipush _ | .iload _ | .iload_n _ | .lload _ | .lload_n _ | .aload _ | .aload_n _ | .istore _ | .istore_n _ | .lstore _ | .lstore_n _ | .astore _ | .astore_n _ | .iinc _ _ => true
  | .iadd | .isub | .imul | .iand | .ior | .ixor | .ishl | .ishr | .iushr | .ladd | .lsub | .lmul | .irem | .ldiv | .lrem | .lshl | .lcmp | .ineg | .lneg | .i2l | .l2i | .i2b | .i2c | .dup | .dup2 | .pop => true
  | .goto _ | .if_icmp _ _ | .ifCond _ _ | .ifnull _ | .ifnonnull _ | .tableswitch _ _ _ _ | .lookupswitch _ _ | .ldc _ | .ldc_w _ | .ldc2_w _ => true
  | _ => false
theorem mTg_eq {pc : Nat} {off : Int} (h : 0 ≤ (pc : Int) + off) : (pc : Int) + off = (mTg pc off : Int) := by unfold mTg; omega
theorem mGo_inj {pc pc' : Nat} {L L' : mLo} {S S' : List Value} {mm mm' : mMem} (h : mGo pc L S mm = some (.inl (pc', L', S', mm'))) : pc = pc' ∧ L = L' ∧ S = S' ∧ mm = mm' := by
  unfold mGo at h
  simp only [Option.some.injEq, Sum.inl.injEq, Prod.mk.injEq] at h
  exact h
end MST
/-- an instruction that touches no memory: its step is the machine's -/
def mSoP (i : Instr) : Prop := ∀ (p : Program) (l : Launch) (e : Env) (R : Room) (s : State) (m : MethodId) (args : Array Value) (below : List Frame) (meth : Method) (c : Code) (H : Heap) (locs : List Loc) (Q : State → Prop) (cells slots : Nat)
    (D : va_G) (cT : FieldType → ClassId) (A : Nat → Prop) (g : mG) (d : Nat) (mm : mMem) (φ : Nat → Nat) (L : mLo) (S : List Value) (ls : Array Slot) (nL pc : Nat) (cal : Nat → List Value → mMem → Option mRs) (mi b pc' : Nat) (L' : mLo) (S' : List Value) (mm' : mMem) (len : Nat),
    mStep cal d mi b g i pc L S mm = some (.inl (pc', L', S', mm')) → mCx p s m args meth c R D cT A g d → decode g.2.1 pc = .ok (i, len) → (len = mLen i ∨ mSw i = true) → mFr φ mm L S ls nL →
    (mm' = mm → mK1 p l e R s m args below meth c H locs cells slots Q φ mm nL pc' L' S') → W p l e R s m args below meth c H locs cells slots Q (F0 m pc ls (S.map (mCv φ)))
theorem so_iadd : mSoP (.iadd) := by
  intro p l e R s m args below meth c H locs Q cells slots D cT A g d mm φ L S ls nL pc cal mi b pc' L' S' mm' len hst C hdg hlen hF kk
  obtain ⟨hx, hb, hml, hr, hlk, hown, hts, hnw, hK, hA, ho, hini, hd1, hd2⟩ := C
  have hS := hF.2.2.2
  have hlen : len = 1 := hlen.resolve_right (by intro h; cases h)
  subst hlen
  unfold mStep at hst
  dsimp only [mBin] at hst
  split at hst
  · rename_i f y x S heq
    cases heq
    obtain ⟨rfl, rfl, rfl, rfl⟩ := mGo_inj hst
    exact lv_iadd hx hb hdg (kk rfl ls (hF.stk hS.tl.tl.int))
  · cases hst
theorem so_isub : mSoP (.isub) := by
  intro p l e R s m args below meth c H locs Q cells slots D cT A g d mm φ L S ls nL pc cal mi b pc' L' S' mm' len hst C hdg hlen hF kk
  obtain ⟨hx, hb, hml, hr, hlk, hown, hts, hnw, hK, hA, ho, hini, hd1, hd2⟩ := C
  have hS := hF.2.2.2
  have hlen : len = 1 := hlen.resolve_right (by intro h; cases h)
  subst hlen
  unfold mStep at hst
  dsimp only [mBin] at hst
  split at hst
  · rename_i f y x S heq
    cases heq
    obtain ⟨rfl, rfl, rfl, rfl⟩ := mGo_inj hst
    exact lv_isub hx hb hdg (kk rfl ls (hF.stk hS.tl.tl.int))
  · cases hst
theorem so_imul : mSoP (.imul) := by
  intro p l e R s m args below meth c H locs Q cells slots D cT A g d mm φ L S ls nL pc cal mi b pc' L' S' mm' len hst C hdg hlen hF kk
  obtain ⟨hx, hb, hml, hr, hlk, hown, hts, hnw, hK, hA, ho, hini, hd1, hd2⟩ := C
  have hS := hF.2.2.2
  have hlen : len = 1 := hlen.resolve_right (by intro h; cases h)
  subst hlen
  unfold mStep at hst
  dsimp only [mBin] at hst
  split at hst
  · rename_i f y x S heq
    cases heq
    obtain ⟨rfl, rfl, rfl, rfl⟩ := mGo_inj hst
    exact lv_imul hx hb hdg (kk rfl ls (hF.stk hS.tl.tl.int))
  · cases hst
theorem so_iand : mSoP (.iand) := by
  intro p l e R s m args below meth c H locs Q cells slots D cT A g d mm φ L S ls nL pc cal mi b pc' L' S' mm' len hst C hdg hlen hF kk
  obtain ⟨hx, hb, hml, hr, hlk, hown, hts, hnw, hK, hA, ho, hini, hd1, hd2⟩ := C
  have hS := hF.2.2.2
  have hlen : len = 1 := hlen.resolve_right (by intro h; cases h)
  subst hlen
  unfold mStep at hst
  dsimp only [mBin] at hst
  split at hst
  · rename_i f y x S heq
    cases heq
    obtain ⟨rfl, rfl, rfl, rfl⟩ := mGo_inj hst
    exact lv_iand hx hb hdg (kk rfl ls (hF.stk hS.tl.tl.int))
  · cases hst
theorem so_ior : mSoP (.ior) := by
  intro p l e R s m args below meth c H locs Q cells slots D cT A g d mm φ L S ls nL pc cal mi b pc' L' S' mm' len hst C hdg hlen hF kk
  obtain ⟨hx, hb, hml, hr, hlk, hown, hts, hnw, hK, hA, ho, hini, hd1, hd2⟩ := C
  have hS := hF.2.2.2
  have hlen : len = 1 := hlen.resolve_right (by intro h; cases h)
  subst hlen
  unfold mStep at hst
  dsimp only [mBin] at hst
  split at hst
  · rename_i f y x S heq
    cases heq
    obtain ⟨rfl, rfl, rfl, rfl⟩ := mGo_inj hst
    exact lv_ior hx hb hdg (kk rfl ls (hF.stk hS.tl.tl.int))
  · cases hst
theorem so_ixor : mSoP (.ixor) := by
  intro p l e R s m args below meth c H locs Q cells slots D cT A g d mm φ L S ls nL pc cal mi b pc' L' S' mm' len hst C hdg hlen hF kk
  obtain ⟨hx, hb, hml, hr, hlk, hown, hts, hnw, hK, hA, ho, hini, hd1, hd2⟩ := C
  have hS := hF.2.2.2
  have hlen : len = 1 := hlen.resolve_right (by intro h; cases h)
  subst hlen
  unfold mStep at hst
  dsimp only [mBin] at hst
  split at hst
  · rename_i f y x S heq
    cases heq
    obtain ⟨rfl, rfl, rfl, rfl⟩ := mGo_inj hst
    exact lv_ixor hx hb hdg (kk rfl ls (hF.stk hS.tl.tl.int))
  · cases hst
theorem so_ishl : mSoP (.ishl) := by
  intro p l e R s m args below meth c H locs Q cells slots D cT A g d mm φ L S ls nL pc cal mi b pc' L' S' mm' len hst C hdg hlen hF kk
  obtain ⟨hx, hb, hml, hr, hlk, hown, hts, hnw, hK, hA, ho, hini, hd1, hd2⟩ := C
  have hS := hF.2.2.2
  have hlen : len = 1 := hlen.resolve_right (by intro h; cases h)
  subst hlen
  unfold mStep at hst
  dsimp only [mBin] at hst
  split at hst
  · rename_i f y x S heq
    cases heq
    obtain ⟨rfl, rfl, rfl, rfl⟩ := mGo_inj hst
    exact lv_ishl hx hb hdg (kk rfl ls (hF.stk hS.tl.tl.int))
  · cases hst
theorem so_ishr : mSoP (.ishr) := by
  intro p l e R s m args below meth c H locs Q cells slots D cT A g d mm φ L S ls nL pc cal mi b pc' L' S' mm' len hst C hdg hlen hF kk
  obtain ⟨hx, hb, hml, hr, hlk, hown, hts, hnw, hK, hA, ho, hini, hd1, hd2⟩ := C
  have hS := hF.2.2.2
  have hlen : len = 1 := hlen.resolve_right (by intro h; cases h)
  subst hlen
  unfold mStep at hst
  dsimp only [mBin] at hst
  split at hst
  · rename_i f y x S heq
    cases heq
    obtain ⟨rfl, rfl, rfl, rfl⟩ := mGo_inj hst
    exact lv_ishr hx hb hdg (kk rfl ls (hF.stk hS.tl.tl.int))
  · cases hst
theorem so_iushr : mSoP (.iushr) := by
  intro p l e R s m args below meth c H locs Q cells slots D cT A g d mm φ L S ls nL pc cal mi b pc' L' S' mm' len hst C hdg hlen hF kk
  obtain ⟨hx, hb, hml, hr, hlk, hown, hts, hnw, hK, hA, ho, hini, hd1, hd2⟩ := C
  have hS := hF.2.2.2
  have hlen : len = 1 := hlen.resolve_right (by intro h; cases h)
  subst hlen
  unfold mStep at hst
  dsimp only [mBin] at hst
  split at hst
  · rename_i f y x S heq
    cases heq
    obtain ⟨rfl, rfl, rfl, rfl⟩ := mGo_inj hst
    exact lv_iushr hx hb hdg rfl (kk rfl ls (hF.stk hS.tl.tl.int))
  · cases hst
theorem so_ladd : mSoP (.ladd) := by
  intro p l e R s m args below meth c H locs Q cells slots D cT A g d mm φ L S ls nL pc cal mi b pc' L' S' mm' len hst C hdg hlen hF kk
  obtain ⟨hx, hb, hml, hr, hlk, hown, hts, hnw, hK, hA, ho, hini, hd1, hd2⟩ := C
  have hS := hF.2.2.2
  have hlen : len = 1 := hlen.resolve_right (by intro h; cases h)
  subst hlen
  unfold mStep at hst
  dsimp only [mBinL] at hst
  split at hst
  · rename_i f y x S heq
    cases heq
    obtain ⟨rfl, rfl, rfl, rfl⟩ := mGo_inj hst
    exact lv_ladd hx hb hdg (kk rfl ls (hF.stk hS.tl.tl.long))
  · cases hst
theorem so_lsub : mSoP (.lsub) := by
  intro p l e R s m args below meth c H locs Q cells slots D cT A g d mm φ L S ls nL pc cal mi b pc' L' S' mm' len hst C hdg hlen hF kk
  obtain ⟨hx, hb, hml, hr, hlk, hown, hts, hnw, hK, hA, ho, hini, hd1, hd2⟩ := C
  have hS := hF.2.2.2
  have hlen : len = 1 := hlen.resolve_right (by intro h; cases h)
  subst hlen
  unfold mStep at hst
  dsimp only [mBinL] at hst
  split at hst
  · rename_i f y x S heq
    cases heq
    obtain ⟨rfl, rfl, rfl, rfl⟩ := mGo_inj hst
    exact lv_lsub hx hb hdg (kk rfl ls (hF.stk hS.tl.tl.long))
  · cases hst
theorem so_lmul : mSoP (.lmul) := by
  intro p l e R s m args below meth c H locs Q cells slots D cT A g d mm φ L S ls nL pc cal mi b pc' L' S' mm' len hst C hdg hlen hF kk
  obtain ⟨hx, hb, hml, hr, hlk, hown, hts, hnw, hK, hA, ho, hini, hd1, hd2⟩ := C
  have hS := hF.2.2.2
  have hlen : len = 1 := hlen.resolve_right (by intro h; cases h)
  subst hlen
  unfold mStep at hst
  dsimp only [mBinL] at hst
  split at hst
  · rename_i f y x S heq
    cases heq
    obtain ⟨rfl, rfl, rfl, rfl⟩ := mGo_inj hst
    exact lv_lmul hx hb hdg (kk rfl ls (hF.stk hS.tl.tl.long))
  · cases hst
theorem so_irem : mSoP (.irem) := by
  intro p l e R s m args below meth c H locs Q cells slots D cT A g d mm φ L S ls nL pc cal mi b pc' L' S' mm' len hst C hdg hlen hF kk
  obtain ⟨hx, hb, hml, hr, hlk, hown, hts, hnw, hK, hA, ho, hini, hd1, hd2⟩ := C
  have hS := hF.2.2.2
  have hlen : len = 1 := hlen.resolve_right (by intro h; cases h)
  subst hlen
  unfold mStep at hst
  dsimp only at hst
  split at hst
  · rename_i y x S
    split at hst
    · rename_i hne
      obtain ⟨rfl, rfl, rfl, rfl⟩ := mGo_inj hst
      exact lv_irem hx hb hdg hne (kk rfl ls (hF.stk hS.tl.tl.int))
    · cases hst
  · cases hst
theorem so_ldiv : mSoP (.ldiv) := by
  intro p l e R s m args below meth c H locs Q cells slots D cT A g d mm φ L S ls nL pc cal mi b pc' L' S' mm' len hst C hdg hlen hF kk
  obtain ⟨hx, hb, hml, hr, hlk, hown, hts, hnw, hK, hA, ho, hini, hd1, hd2⟩ := C
  have hS := hF.2.2.2
  have hlen : len = 1 := hlen.resolve_right (by intro h; cases h)
  subst hlen
  unfold mStep at hst
  dsimp only at hst
  split at hst
  · rename_i y x S
    split at hst
    · rename_i hne
      obtain ⟨rfl, rfl, rfl, rfl⟩ := mGo_inj hst
      exact lv_ldiv hx hb hdg hne (kk rfl ls (hF.stk hS.tl.tl.long))
    · cases hst
  · cases hst
theorem so_lrem : mSoP (.lrem) := by
  intro p l e R s m args below meth c H locs Q cells slots D cT A g d mm φ L S ls nL pc cal mi b pc' L' S' mm' len hst C hdg hlen hF kk
  obtain ⟨hx, hb, hml, hr, hlk, hown, hts, hnw, hK, hA, ho, hini, hd1, hd2⟩ := C
  have hS := hF.2.2.2
  have hlen : len = 1 := hlen.resolve_right (by intro h; cases h)
  subst hlen
  unfold mStep at hst
  dsimp only at hst
  split at hst
  · rename_i y x S
    split at hst
    · rename_i hne
      obtain ⟨rfl, rfl, rfl, rfl⟩ := mGo_inj hst
      exact lv_lrem hx hb hdg hne (kk rfl ls (hF.stk hS.tl.tl.long))
    · cases hst
  · cases hst
theorem so_lshl : mSoP (.lshl) := by
  intro p l e R s m args below meth c H locs Q cells slots D cT A g d mm φ L S ls nL pc cal mi b pc' L' S' mm' len hst C hdg hlen hF kk
  obtain ⟨hx, hb, hml, hr, hlk, hown, hts, hnw, hK, hA, ho, hini, hd1, hd2⟩ := C
  have hS := hF.2.2.2
  have hlen : len = 1 := hlen.resolve_right (by intro h; cases h)
  subst hlen
  unfold mStep at hst
  dsimp only at hst
  split at hst
  · rename_i y x S
    obtain ⟨rfl, rfl, rfl, rfl⟩ := mGo_inj hst
    exact lv_lshl hx hb hdg rfl (kk rfl ls (hF.stk hS.tl.tl.long))
  · cases hst
theorem so_lcmp : mSoP (.lcmp) := by
  intro p l e R s m args below meth c H locs Q cells slots D cT A g d mm φ L S ls nL pc cal mi b pc' L' S' mm' len hst C hdg hlen hF kk
  obtain ⟨hx, hb, hml, hr, hlk, hown, hts, hnw, hK, hA, ho, hini, hd1, hd2⟩ := C
  have hS := hF.2.2.2
  have hlen : len = 1 := hlen.resolve_right (by intro h; cases h)
  subst hlen
  unfold mStep at hst
  dsimp only at hst
  split at hst
  · rename_i y x S
    obtain ⟨rfl, rfl, rfl, rfl⟩ := mGo_inj hst
    exact W.lcmp hx hb hdg (kk rfl ls (hF.stk hS.tl.tl.int))
  · cases hst
theorem so_ineg : mSoP (.ineg) := by
  intro p l e R s m args below meth c H locs Q cells slots D cT A g d mm φ L S ls nL pc cal mi b pc' L' S' mm' len hst C hdg hlen hF kk
  obtain ⟨hx, hb, hml, hr, hlk, hown, hts, hnw, hK, hA, ho, hini, hd1, hd2⟩ := C
  have hS := hF.2.2.2
  have hlen : len = 1 := hlen.resolve_right (by intro h; cases h)
  subst hlen
  unfold mStep at hst
  dsimp only at hst
  split at hst
  · rename_i v S
    cases v with
    | int x =>
      dsimp only [mUn] at hst
      obtain ⟨rfl, rfl, rfl, rfl⟩ := mGo_inj hst
      exact lv_ineg hx hb hdg (kk rfl ls (hF.stk hS.tl.int))
    | _ => cases hst
  · cases hst
theorem so_lneg : mSoP (.lneg) := by
  intro p l e R s m args below meth c H locs Q cells slots D cT A g d mm φ L S ls nL pc cal mi b pc' L' S' mm' len hst C hdg hlen hF kk
  obtain ⟨hx, hb, hml, hr, hlk, hown, hts, hnw, hK, hA, ho, hini, hd1, hd2⟩ := C
  have hS := hF.2.2.2
  have hlen : len = 1 := hlen.resolve_right (by intro h; cases h)
  subst hlen
  unfold mStep at hst
  dsimp only at hst
  split at hst
  · rename_i v S
    cases v with
    | long x =>
      dsimp only [mUn] at hst
      obtain ⟨rfl, rfl, rfl, rfl⟩ := mGo_inj hst
      exact lv_lneg hx hb hdg (kk rfl ls (hF.stk hS.tl.long))
    | _ => cases hst
  · cases hst
theorem so_i2l : mSoP (.i2l) := by
  intro p l e R s m args below meth c H locs Q cells slots D cT A g d mm φ L S ls nL pc cal mi b pc' L' S' mm' len hst C hdg hlen hF kk
  obtain ⟨hx, hb, hml, hr, hlk, hown, hts, hnw, hK, hA, ho, hini, hd1, hd2⟩ := C
  have hS := hF.2.2.2
  have hlen : len = 1 := hlen.resolve_right (by intro h; cases h)
  subst hlen
  unfold mStep at hst
  dsimp only at hst
  split at hst
  · rename_i v S
    cases v with
    | int x =>
      dsimp only [mUn] at hst
      obtain ⟨rfl, rfl, rfl, rfl⟩ := mGo_inj hst
      exact lv_i2l hx hb hdg rfl (kk rfl ls (hF.stk hS.tl.long))
    | _ => cases hst
  · cases hst
theorem so_l2i : mSoP (.l2i) := by
  intro p l e R s m args below meth c H locs Q cells slots D cT A g d mm φ L S ls nL pc cal mi b pc' L' S' mm' len hst C hdg hlen hF kk
  obtain ⟨hx, hb, hml, hr, hlk, hown, hts, hnw, hK, hA, ho, hini, hd1, hd2⟩ := C
  have hS := hF.2.2.2
  have hlen : len = 1 := hlen.resolve_right (by intro h; cases h)
  subst hlen
  unfold mStep at hst
  dsimp only at hst
  split at hst
  · rename_i v S
    cases v with
    | long x =>
      dsimp only [mUn] at hst
      obtain ⟨rfl, rfl, rfl, rfl⟩ := mGo_inj hst
      exact lv_l2i hx hb hdg rfl (kk rfl ls (hF.stk hS.tl.int))
    | _ => cases hst
  · cases hst
theorem so_i2b : mSoP (.i2b) := by
  intro p l e R s m args below meth c H locs Q cells slots D cT A g d mm φ L S ls nL pc cal mi b pc' L' S' mm' len hst C hdg hlen hF kk
  obtain ⟨hx, hb, hml, hr, hlk, hown, hts, hnw, hK, hA, ho, hini, hd1, hd2⟩ := C
  have hS := hF.2.2.2
  have hlen : len = 1 := hlen.resolve_right (by intro h; cases h)
  subst hlen
  unfold mStep at hst
  dsimp only at hst
  split at hst
  · rename_i v S
    cases v with
    | int x =>
      dsimp only [mUn] at hst
      obtain ⟨rfl, rfl, rfl, rfl⟩ := mGo_inj hst
      exact lv_i2b hx hb hdg rfl (kk rfl ls (hF.stk hS.tl.int))
    | _ => cases hst
  · cases hst
theorem so_i2c : mSoP (.i2c) := by
  intro p l e R s m args below meth c H locs Q cells slots D cT A g d mm φ L S ls nL pc cal mi b pc' L' S' mm' len hst C hdg hlen hF kk
  obtain ⟨hx, hb, hml, hr, hlk, hown, hts, hnw, hK, hA, ho, hini, hd1, hd2⟩ := C
  have hS := hF.2.2.2
  have hlen : len = 1 := hlen.resolve_right (by intro h; cases h)
  subst hlen
  unfold mStep at hst
  dsimp only at hst
  split at hst
  · rename_i v S
    cases v with
    | int x =>
      dsimp only [mUn] at hst
      obtain ⟨rfl, rfl, rfl, rfl⟩ := mGo_inj hst
      exact lv_i2c hx hb hdg rfl (kk rfl ls (hF.stk hS.tl.int))
    | _ => cases hst
  · cases hst
theorem so_dup : mSoP (.dup) := by
  intro p l e R s m args below meth c H locs Q cells slots D cT A g d mm φ L S ls nL pc cal mi b pc' L' S' mm' len hst C hdg hlen hF kk
  obtain ⟨hx, hb, hml, hr, hlk, hown, hts, hnw, hK, hA, ho, hini, hd1, hd2⟩ := C
  have hS := hF.2.2.2
  have hlen : len = 1 := hlen.resolve_right (by intro h; cases h)
  subst hlen
  unfold mStep at hst
  dsimp only at hst
  split at hst
  · rename_i v S
    split at hst
    · rename_i hc
      obtain ⟨rfl, rfl, rfl, rfl⟩ := mGo_inj hst
      exact lv_dup hx hb hdg (by rw [mCv_cat]; exact hc) (kk rfl ls (hF.stk (hS.cons hS.hd)))
    · cases hst
  · cases hst
theorem so_dup2 : mSoP (.dup2) := by
  intro p l e R s m args below meth c H locs Q cells slots D cT A g d mm φ L S ls nL pc cal mi b pc' L' S' mm' len hst C hdg hlen hF kk
  obtain ⟨hx, hb, hml, hr, hlk, hown, hts, hnw, hK, hA, ho, hini, hd1, hd2⟩ := C
  have hS := hF.2.2.2
  have hlen : len = 1 := hlen.resolve_right (by intro h; cases h)
  subst hlen
  unfold mStep at hst
  dsimp only at hst
  split at hst
  · rename_i v u S
    split at hst
    · rename_i hc
      obtain ⟨rfl, rfl, rfl, rfl⟩ := mGo_inj hst
      exact lv_dup2_11 hx hb hdg (by rw [mCv_cat]; exact hc.1) (by rw [mCv_cat]; exact hc.2) (kk rfl ls (hF.stk ((hS.cons hS.tl.hd).cons hS.hd)))
    · cases hst
  · cases hst
theorem so_pop : mSoP (.pop) := by
  intro p l e R s m args below meth c H locs Q cells slots D cT A g d mm φ L S ls nL pc cal mi b pc' L' S' mm' len hst C hdg hlen hF kk
  obtain ⟨hx, hb, hml, hr, hlk, hown, hts, hnw, hK, hA, ho, hini, hd1, hd2⟩ := C
  have hS := hF.2.2.2
  have hlen : len = 1 := hlen.resolve_right (by intro h; cases h)
  subst hlen
  unfold mStep at hst
  dsimp only at hst
  split at hst
  · rename_i v S
    split at hst
    · rename_i hc
      obtain ⟨rfl, rfl, rfl, rfl⟩ := mGo_inj hst
      exact lv_pop hx hb hdg (by rw [mCv_cat]; exact hc) (kk rfl ls (hF.stk hS.tl))
    · cases hst
  · cases hst
theorem so_iconst (n : Int) : mSoP (.iconst n) := by
  intro p l e R s m args below meth c H locs Q cells slots D cT A g d mm φ L S ls nL pc cal mi b pc' L' S' mm' len hst C hdg hlen hF kk
  obtain ⟨hx, hb, hml, hr, hlk, hown, hts, hnw, hK, hA, ho, hini, hd1, hd2⟩ := C
  have hS := hF.2.2.2
  have hlen : len = 1 := hlen.resolve_right (by intro h; cases h)
  subst hlen
  unfold mStep at hst
  dsimp only [mPush] at hst
  obtain ⟨rfl, rfl, rfl, rfl⟩ := mGo_inj hst
  exact lv_iconst hx hb hdg rfl (kk rfl ls (hF.stk hS.int))
theorem so_bipush (n : Int) : mSoP (.bipush n) := by
  intro p l e R s m args below meth c H locs Q cells slots D cT A g d mm φ L S ls nL pc cal mi b pc' L' S' mm' len hst C hdg hlen hF kk
  obtain ⟨hx, hb, hml, hr, hlk, hown, hts, hnw, hK, hA, ho, hini, hd1, hd2⟩ := C
  have hS := hF.2.2.2
  have hlen : len = 2 := hlen.resolve_right (by intro h; cases h)
  subst hlen
  unfold mStep at hst
  dsimp only [mPush] at hst
  obtain ⟨rfl, rfl, rfl, rfl⟩ := mGo_inj hst
  exact lv_bipush hx hb hdg rfl (kk rfl ls (hF.stk hS.int))
theorem so_sipush (n : Int) : mSoP (.sipush n) := by
  intro p l e R s m args below meth c H locs Q cells slots D cT A g d mm φ L S ls nL pc cal mi b pc' L' S' mm' len hst C hdg hlen hF kk
  obtain ⟨hx, hb, hml, hr, hlk, hown, hts, hnw, hK, hA, ho, hini, hd1, hd2⟩ := C
  have hS := hF.2.2.2
  have hlen : len = 3 := hlen.resolve_right (by intro h; cases h)
  subst hlen
  unfold mStep at hst
  dsimp only [mPush] at hst
  obtain ⟨rfl, rfl, rfl, rfl⟩ := mGo_inj hst
  exact lv_sipush hx hb hdg rfl (kk rfl ls (hF.stk hS.int))
theorem so_lconst (n : Fin 2) : mSoP (.lconst n) := by
  intro p l e R s m args below meth c H locs Q cells slots D cT A g d mm φ L S ls nL pc cal mi b pc' L' S' mm' len hst C hdg hlen hF kk
  obtain ⟨hx, hb, hml, hr, hlk, hown, hts, hnw, hK, hA, ho, hini, hd1, hd2⟩ := C
  have hS := hF.2.2.2
  have hlen : len = 1 := hlen.resolve_right (by intro h; cases h)
  subst hlen
  unfold mStep at hst
  dsimp only [mPush] at hst
  obtain ⟨rfl, rfl, rfl, rfl⟩ := mGo_inj hst
  exact lv_lconst hx hb hdg rfl (kk rfl ls (hF.stk hS.long))
theorem so_iload (j : Nat) : mSoP (.iload j) := by
  intro p l e R s m args below meth c H locs Q cells slots D cT A g d mm φ L S ls nL pc cal mi b pc' L' S' mm' len hst C hdg hlen hF kk
  obtain ⟨hx, hb, hml, hr, hlk, hown, hts, hnw, hK, hA, ho, hini, hd1, hd2⟩ := C
  have hS := hF.2.2.2
  have hlen : len = 2 := hlen.resolve_right (by intro h; cases h)
  subst hlen
  unfold mStep at hst
  dsimp only [mLdK] at hst
  split at hst
  · rename_i v heq
    split at hst
    · rename_i hk
      cases v with
      | int x =>
        obtain ⟨rfl, rfl, rfl, rfl⟩ := mGo_inj hst
        exact lv_iload hx hb hdg (hF.at heq) (kk rfl ls (hF.stk hS.int))
      | _ => cases hk
    · cases hst
  · cases hst
theorem so_iload_n (j : Fin 4) : mSoP (.iload_n j) := by
  intro p l e R s m args below meth c H locs Q cells slots D cT A g d mm φ L S ls nL pc cal mi b pc' L' S' mm' len hst C hdg hlen hF kk
  obtain ⟨hx, hb, hml, hr, hlk, hown, hts, hnw, hK, hA, ho, hini, hd1, hd2⟩ := C
  have hS := hF.2.2.2
  have hlen : len = 1 := hlen.resolve_right (by intro h; cases h)
  subst hlen
  unfold mStep at hst
  dsimp only [mLdK] at hst
  split at hst
  · rename_i v heq
    split at hst
    · rename_i hk
      cases v with
      | int x =>
        obtain ⟨rfl, rfl, rfl, rfl⟩ := mGo_inj hst
        exact lv_iload_n hx hb hdg rfl (hF.at heq) (kk rfl ls (hF.stk hS.int))
      | _ => cases hk
    · cases hst
  · cases hst
theorem so_lload (j : Nat) : mSoP (.lload j) := by
  intro p l e R s m args below meth c H locs Q cells slots D cT A g d mm φ L S ls nL pc cal mi b pc' L' S' mm' len hst C hdg hlen hF kk
  obtain ⟨hx, hb, hml, hr, hlk, hown, hts, hnw, hK, hA, ho, hini, hd1, hd2⟩ := C
  have hS := hF.2.2.2
  have hlen : len = 2 := hlen.resolve_right (by intro h; cases h)
  subst hlen
  unfold mStep at hst
  dsimp only [mLdK] at hst
  split at hst
  · rename_i v heq
    split at hst
    · rename_i hk
      cases v with
      | long x =>
        obtain ⟨rfl, rfl, rfl, rfl⟩ := mGo_inj hst
        exact lv_lload hx hb hdg (hF.at heq) (kk rfl ls (hF.stk hS.long))
      | _ => cases hk
    · cases hst
  · cases hst
theorem so_lload_n (j : Fin 4) : mSoP (.lload_n j) := by
  intro p l e R s m args below meth c H locs Q cells slots D cT A g d mm φ L S ls nL pc cal mi b pc' L' S' mm' len hst C hdg hlen hF kk
  obtain ⟨hx, hb, hml, hr, hlk, hown, hts, hnw, hK, hA, ho, hini, hd1, hd2⟩ := C
  have hS := hF.2.2.2
  have hlen : len = 1 := hlen.resolve_right (by intro h; cases h)
  subst hlen
  unfold mStep at hst
  dsimp only [mLdK] at hst
  split at hst
  · rename_i v heq
    split at hst
    · rename_i hk
      cases v with
      | long x =>
        obtain ⟨rfl, rfl, rfl, rfl⟩ := mGo_inj hst
        exact lv_lload_n hx hb hdg rfl (hF.at heq) (kk rfl ls (hF.stk hS.long))
      | _ => cases hk
    · cases hst
  · cases hst
theorem so_aload (j : Nat) : mSoP (.aload j) := by
  intro p l e R s m args below meth c H locs Q cells slots D cT A g d mm φ L S ls nL pc cal mi b pc' L' S' mm' len hst C hdg hlen hF kk
  obtain ⟨hx, hb, hml, hr, hlk, hown, hts, hnw, hK, hA, ho, hini, hd1, hd2⟩ := C
  have hS := hF.2.2.2
  have hlen : len = 2 := hlen.resolve_right (by intro h; cases h)
  subst hlen
  unfold mStep at hst
  dsimp only [mLdK] at hst
  split at hst
  · rename_i v heq
    split at hst
    · rename_i hk
      cases v with
      | ref x =>
        obtain ⟨rfl, rfl, rfl, rfl⟩ := mGo_inj hst
        exact lv_aload hx hb hdg (hF.at heq) (kk rfl ls (hF.stk (hS.cons (hF.2.2.1 _ _ heq))))
      | _ => cases hk
    · cases hst
  · cases hst
theorem so_aload_n (j : Fin 4) : mSoP (.aload_n j) := by
  intro p l e R s m args below meth c H locs Q cells slots D cT A g d mm φ L S ls nL pc cal mi b pc' L' S' mm' len hst C hdg hlen hF kk
  obtain ⟨hx, hb, hml, hr, hlk, hown, hts, hnw, hK, hA, ho, hini, hd1, hd2⟩ := C
  have hS := hF.2.2.2
  have hlen : len = 1 := hlen.resolve_right (by intro h; cases h)
  subst hlen
  unfold mStep at hst
  dsimp only [mLdK] at hst
  split at hst
  · rename_i v heq
    split at hst
    · rename_i hk
      cases v with
      | ref x =>
        obtain ⟨rfl, rfl, rfl, rfl⟩ := mGo_inj hst
        exact lv_aload_n hx hb hdg rfl (hF.at heq) (kk rfl ls (hF.stk (hS.cons (hF.2.2.1 _ _ heq))))
      | _ => cases hk
    · cases hst
  · cases hst
theorem so_istore (j : Nat) : mSoP (.istore j) := by
  intro p l e R s m args below meth c H locs Q cells slots D cT A g d mm φ L S ls nL pc cal mi b pc' L' S' mm' len hst C hdg hlen hF kk
  obtain ⟨hx, hb, hml, hr, hlk, hown, hts, hnw, hK, hA, ho, hini, hd1, hd2⟩ := C
  have hS := hF.2.2.2
  have hlen : len = 2 := hlen.resolve_right (by intro h; cases h)
  subst hlen
  unfold mStep at hst
  dsimp only [mStK] at hst
  split at hst
  · rename_i k j' v S heq
    cases heq
    simp only [show (((0:Nat) = 1) = False) from by simp, show (((2:Nat) = 1) = False) from by simp, if_false, if_true, Nat.add_zero] at hst
    split at hst
    · rename_i hk
      obtain ⟨hk, hl⟩ := hk
      cases v with
      | int x =>
        obtain ⟨rfl, rfl, rfl, rfl⟩ := mGo_inj hst
        exact lv_istore hx hb hdg hF.2.1 (hF.1 ▸ hl) rfl (fun ls' hl' => kk rfl ls' (hF.st1 hS.hd hS.tl hl'))
      | _ => cases hk
    · cases hst
  · cases hst
theorem so_istore_n (j : Fin 4) : mSoP (.istore_n j) := by
  intro p l e R s m args below meth c H locs Q cells slots D cT A g d mm φ L S ls nL pc cal mi b pc' L' S' mm' len hst C hdg hlen hF kk
  obtain ⟨hx, hb, hml, hr, hlk, hown, hts, hnw, hK, hA, ho, hini, hd1, hd2⟩ := C
  have hS := hF.2.2.2
  have hlen : len = 1 := hlen.resolve_right (by intro h; cases h)
  subst hlen
  unfold mStep at hst
  dsimp only [mStK] at hst
  split at hst
  · rename_i k j' v S heq
    cases heq
    simp only [show (((0:Nat) = 1) = False) from by simp, show (((2:Nat) = 1) = False) from by simp, if_false, if_true, Nat.add_zero] at hst
    split at hst
    · rename_i hk
      obtain ⟨hk, hl⟩ := hk
      cases v with
      | int x =>
        obtain ⟨rfl, rfl, rfl, rfl⟩ := mGo_inj hst
        exact lv_istore_n hx hb hdg rfl hF.2.1 (hF.1 ▸ hl) rfl (fun ls' hl' => kk rfl ls' (hF.st1 hS.hd hS.tl hl'))
      | _ => cases hk
    · cases hst
  · cases hst
theorem so_lstore (j : Nat) : mSoP (.lstore j) := by
  intro p l e R s m args below meth c H locs Q cells slots D cT A g d mm φ L S ls nL pc cal mi b pc' L' S' mm' len hst C hdg hlen hF kk
  obtain ⟨hx, hb, hml, hr, hlk, hown, hts, hnw, hK, hA, ho, hini, hd1, hd2⟩ := C
  have hS := hF.2.2.2
  have hlen : len = 2 := hlen.resolve_right (by intro h; cases h)
  subst hlen
  unfold mStep at hst
  dsimp only [mStK] at hst
  split at hst
  · rename_i k j' v S heq
    cases heq
    simp only [show (((0:Nat) = 1) = False) from by simp, show (((2:Nat) = 1) = False) from by simp, if_false, if_true, Nat.add_zero] at hst
    split at hst
    · rename_i hk
      obtain ⟨hk, hl⟩ := hk
      cases v with
      | long x =>
        obtain ⟨rfl, rfl, rfl, rfl⟩ := mGo_inj hst
        exact lv_lstore hx hb hdg hF.2.1 (hF.1 ▸ hl) rfl (fun ls' hl' => kk rfl ls' (hF.st2 hS.hd hS.tl hl'))
      | _ => cases hk
    · cases hst
  · cases hst
theorem so_lstore_n (j : Fin 4) : mSoP (.lstore_n j) := by
  intro p l e R s m args below meth c H locs Q cells slots D cT A g d mm φ L S ls nL pc cal mi b pc' L' S' mm' len hst C hdg hlen hF kk
  obtain ⟨hx, hb, hml, hr, hlk, hown, hts, hnw, hK, hA, ho, hini, hd1, hd2⟩ := C
  have hS := hF.2.2.2
  have hlen : len = 1 := hlen.resolve_right (by intro h; cases h)
  subst hlen
  unfold mStep at hst
  dsimp only [mStK] at hst
  split at hst
  · rename_i k j' v S heq
    cases heq
    simp only [show (((0:Nat) = 1) = False) from by simp, show (((2:Nat) = 1) = False) from by simp, if_false, if_true, Nat.add_zero] at hst
    split at hst
    · rename_i hk
      obtain ⟨hk, hl⟩ := hk
      cases v with
      | long x =>
        obtain ⟨rfl, rfl, rfl, rfl⟩ := mGo_inj hst
        exact lv_lstore_n hx hb hdg rfl hF.2.1 (hF.1 ▸ hl) rfl (fun ls' hl' => kk rfl ls' (hF.st2 hS.hd hS.tl hl'))
      | _ => cases hk
    · cases hst
  · cases hst
theorem so_astore (j : Nat) : mSoP (.astore j) := by
  intro p l e R s m args below meth c H locs Q cells slots D cT A g d mm φ L S ls nL pc cal mi b pc' L' S' mm' len hst C hdg hlen hF kk
  obtain ⟨hx, hb, hml, hr, hlk, hown, hts, hnw, hK, hA, ho, hini, hd1, hd2⟩ := C
  have hS := hF.2.2.2
  have hlen : len = 2 := hlen.resolve_right (by intro h; cases h)
  subst hlen
  unfold mStep at hst
  dsimp only [mStK] at hst
  split at hst
  · rename_i k j' v S heq
    cases heq
    simp only [show (((0:Nat) = 1) = False) from by simp, show (((2:Nat) = 1) = False) from by simp, if_false, if_true, Nat.add_zero] at hst
    split at hst
    · rename_i hk
      obtain ⟨hk, hl⟩ := hk
      cases v with
      | ref x =>
        obtain ⟨rfl, rfl, rfl, rfl⟩ := mGo_inj hst
        exact lv_astore hx hb hdg hF.2.1 (hF.1 ▸ hl) rfl (fun ls' hl' => kk rfl ls' (hF.st1 hS.hd hS.tl hl'))
      | _ => cases hk
    · cases hst
  · cases hst
theorem so_astore_n (j : Fin 4) : mSoP (.astore_n j) := by
  intro p l e R s m args below meth c H locs Q cells slots D cT A g d mm φ L S ls nL pc cal mi b pc' L' S' mm' len hst C hdg hlen hF kk
  obtain ⟨hx, hb, hml, hr, hlk, hown, hts, hnw, hK, hA, ho, hini, hd1, hd2⟩ := C
  have hS := hF.2.2.2
  have hlen : len = 1 := hlen.resolve_right (by intro h; cases h)
  subst hlen
  unfold mStep at hst
  dsimp only [mStK] at hst
  split at hst
  · rename_i k j' v S heq
    cases heq
    simp only [show (((0:Nat) = 1) = False) from by simp, show (((2:Nat) = 1) = False) from by simp, if_false, if_true, Nat.add_zero] at hst
    split at hst
    · rename_i hk
      obtain ⟨hk, hl⟩ := hk
      cases v with
      | ref x =>
        obtain ⟨rfl, rfl, rfl, rfl⟩ := mGo_inj hst
        exact lv_astore_n hx hb hdg rfl hF.2.1 (hF.1 ▸ hl) rfl (fun ls' hl' => kk rfl ls' (hF.st1 hS.hd hS.tl hl'))
      | _ => cases hk
    · cases hst
  · cases hst
theorem so_iinc (j : Nat) (n : Int) : mSoP (.iinc j n) := by
  intro p l e R s m args below meth c H locs Q cells slots D cT A g d mm φ L S ls nL pc cal mi b pc' L' S' mm' len hst C hdg hlen hF kk
  obtain ⟨hx, hb, hml, hr, hlk, hown, hts, hnw, hK, hA, ho, hini, hd1, hd2⟩ := C
  have hS := hF.2.2.2
  have hlen : len = 3 := hlen.resolve_right (by intro h; cases h)
  subst hlen
  unfold mStep at hst
  dsimp only at hst
  split at hst
  · rename_i x heq
    split at hst
    · rename_i hl
      obtain ⟨rfl, rfl, rfl, rfl⟩ := mGo_inj hst
      obtain ⟨k, hk⟩ := List.getElem?_of_mem (mAl_mem (φ := φ).mpr ⟨.int x, heq, rfl⟩ : (j, Value.int x) ∈ mAl φ L)
      exact lv_iinc hx hb hdg hF.2.1 hk rfl (hF.1 ▸ hl) rfl (fun ls' hl' => kk rfl ls' (hF.st1 (mOkV_int _ _) hS hl'))
    · cases hst
  · cases hst
theorem so_goto (off : Int) : mSoP (.goto off) := by
  intro p l e R s m args below meth c H locs Q cells slots D cT A g d mm φ L S ls nL pc cal mi b pc' L' S' mm' len hst C hdg hlen hF kk
  obtain ⟨hx, hb, hml, hr, hlk, hown, hts, hnw, hK, hA, ho, hini, hd1, hd2⟩ := C
  have hS := hF.2.2.2
  have hlen : len = 3 := hlen.resolve_right (by intro h; cases h)
  subst hlen
  unfold mStep at hst
  dsimp only [mSwt] at hst
  split at hst
  · rename_i h0
    obtain ⟨rfl, rfl, rfl, rfl⟩ := mGo_inj hst
    exact lv_goto hx hb hdg (mTg_eq h0) (kk rfl ls hF)
  · cases hst
theorem so_icmp_eq (off : Int) : mSoP (.if_icmp .eq off) := by
  intro p l e R s m args below meth c H locs Q cells slots D cT A g d mm φ L S ls nL pc cal mi b pc' L' S' mm' len hst C hdg hlen hF kk
  obtain ⟨hx, hb, hml, hr, hlk, hown, hts, hnw, hK, hA, ho, hini, hd1, hd2⟩ := C
  have hS := hF.2.2.2
  have hlen : len = 3 := hlen.resolve_right (by intro h; cases h)
  subst hlen
  unfold mStep at hst
  dsimp only at hst
  split at hst
  · rename_i y x S
    split at hst
    · rename_i h0
      by_cases hc : mCmp .eq x y = true
      · rw [if_pos hc] at hst
        obtain ⟨rfl, rfl, rfl, rfl⟩ := mGo_inj hst
        simp only [mCmp, decide_eq_true_eq, Bool.not_eq_true', decide_eq_false_iff_not] at hc
        exact lv_icmp_eq hx hb hdg (mTg_eq h0) (fun _ => kk rfl ls (hF.stk hS.tl.tl)) (fun h => absurd hc h)
      · rw [if_neg hc] at hst
        obtain ⟨rfl, rfl, rfl, rfl⟩ := mGo_inj hst
        simp only [mCmp, decide_eq_true_eq, Bool.not_eq_true', decide_eq_false_iff_not, Classical.not_not] at hc
        exact lv_icmp_eq hx hb hdg (mTg_eq h0) (fun h => absurd h hc) (fun _ => kk rfl ls (hF.stk hS.tl.tl))
    · cases hst
  · cases hst
theorem so_if_eq (off : Int) : mSoP (.ifCond .eq off) := by
  intro p l e R s m args below meth c H locs Q cells slots D cT A g d mm φ L S ls nL pc cal mi b pc' L' S' mm' len hst C hdg hlen hF kk
  obtain ⟨hx, hb, hml, hr, hlk, hown, hts, hnw, hK, hA, ho, hini, hd1, hd2⟩ := C
  have hS := hF.2.2.2
  have hlen : len = 3 := hlen.resolve_right (by intro h; cases h)
  subst hlen
  unfold mStep at hst
  dsimp only at hst
  split at hst
  · rename_i x S
    split at hst
    · rename_i h0
      by_cases hc : mCmp .eq x 0 = true
      · rw [if_pos hc] at hst
        obtain ⟨rfl, rfl, rfl, rfl⟩ := mGo_inj hst
        simp only [mCmp, decide_eq_true_eq, Bool.not_eq_true', decide_eq_false_iff_not] at hc
        exact lv_if_eq hx hb hdg (mTg_eq h0) (fun _ => kk rfl ls (hF.stk hS.tl)) (fun h => absurd hc h)
      · rw [if_neg hc] at hst
        obtain ⟨rfl, rfl, rfl, rfl⟩ := mGo_inj hst
        simp only [mCmp, decide_eq_true_eq, Bool.not_eq_true', decide_eq_false_iff_not, Classical.not_not] at hc
        exact lv_if_eq hx hb hdg (mTg_eq h0) (fun h => absurd h hc) (fun _ => kk rfl ls (hF.stk hS.tl))
    · cases hst
  · cases hst
theorem so_icmp_ne (off : Int) : mSoP (.if_icmp .ne off) := by
  intro p l e R s m args below meth c H locs Q cells slots D cT A g d mm φ L S ls nL pc cal mi b pc' L' S' mm' len hst C hdg hlen hF kk
  obtain ⟨hx, hb, hml, hr, hlk, hown, hts, hnw, hK, hA, ho, hini, hd1, hd2⟩ := C
  have hS := hF.2.2.2
  have hlen : len = 3 := hlen.resolve_right (by intro h; cases h)
  subst hlen
  unfold mStep at hst
  dsimp only at hst
  split at hst
  · rename_i y x S
    split at hst
    · rename_i h0
      by_cases hc : mCmp .ne x y = true
      · rw [if_pos hc] at hst
        obtain ⟨rfl, rfl, rfl, rfl⟩ := mGo_inj hst
        simp only [mCmp, decide_eq_true_eq, Bool.not_eq_true', decide_eq_false_iff_not] at hc
        exact lv_icmp_ne hx hb hdg (mTg_eq h0) (fun _ => kk rfl ls (hF.stk hS.tl.tl)) (fun h => absurd hc (fun h2 => h2 h))
      · rw [if_neg hc] at hst
        obtain ⟨rfl, rfl, rfl, rfl⟩ := mGo_inj hst
        simp only [mCmp, decide_eq_true_eq, Bool.not_eq_true', decide_eq_false_iff_not, Classical.not_not] at hc
        exact lv_icmp_ne hx hb hdg (mTg_eq h0) (fun h => absurd hc h) (fun _ => kk rfl ls (hF.stk hS.tl.tl))
    · cases hst
  · cases hst
theorem so_if_ne (off : Int) : mSoP (.ifCond .ne off) := by
  intro p l e R s m args below meth c H locs Q cells slots D cT A g d mm φ L S ls nL pc cal mi b pc' L' S' mm' len hst C hdg hlen hF kk
  obtain ⟨hx, hb, hml, hr, hlk, hown, hts, hnw, hK, hA, ho, hini, hd1, hd2⟩ := C
  have hS := hF.2.2.2
  have hlen : len = 3 := hlen.resolve_right (by intro h; cases h)
  subst hlen
  unfold mStep at hst
  dsimp only at hst
  split at hst
  · rename_i x S
    split at hst
    · rename_i h0
      by_cases hc : mCmp .ne x 0 = true
      · rw [if_pos hc] at hst
        obtain ⟨rfl, rfl, rfl, rfl⟩ := mGo_inj hst
        simp only [mCmp, decide_eq_true_eq, Bool.not_eq_true', decide_eq_false_iff_not] at hc
        exact lv_if_ne hx hb hdg (mTg_eq h0) (fun _ => kk rfl ls (hF.stk hS.tl)) (fun h => absurd hc (fun h2 => h2 h))
      · rw [if_neg hc] at hst
        obtain ⟨rfl, rfl, rfl, rfl⟩ := mGo_inj hst
        simp only [mCmp, decide_eq_true_eq, Bool.not_eq_true', decide_eq_false_iff_not, Classical.not_not] at hc
        exact lv_if_ne hx hb hdg (mTg_eq h0) (fun h => absurd hc h) (fun _ => kk rfl ls (hF.stk hS.tl))
    · cases hst
  · cases hst
theorem so_icmp_lt (off : Int) : mSoP (.if_icmp .lt off) := by
  intro p l e R s m args below meth c H locs Q cells slots D cT A g d mm φ L S ls nL pc cal mi b pc' L' S' mm' len hst C hdg hlen hF kk
  obtain ⟨hx, hb, hml, hr, hlk, hown, hts, hnw, hK, hA, ho, hini, hd1, hd2⟩ := C
  have hS := hF.2.2.2
  have hlen : len = 3 := hlen.resolve_right (by intro h; cases h)
  subst hlen
  unfold mStep at hst
  dsimp only at hst
  split at hst
  · rename_i y x S
    split at hst
    · rename_i h0
      by_cases hc : mCmp .lt x y = true
      · rw [if_pos hc] at hst
        obtain ⟨rfl, rfl, rfl, rfl⟩ := mGo_inj hst
        simp only [mCmp, decide_eq_true_eq, Bool.not_eq_true', decide_eq_false_iff_not] at hc
        exact lv_icmp_lt hx hb hdg (mTg_eq h0) (fun _ => kk rfl ls (hF.stk hS.tl.tl)) (fun h => absurd hc h)
      · rw [if_neg hc] at hst
        obtain ⟨rfl, rfl, rfl, rfl⟩ := mGo_inj hst
        simp only [mCmp, decide_eq_true_eq, Bool.not_eq_true', decide_eq_false_iff_not, Classical.not_not] at hc
        exact lv_icmp_lt hx hb hdg (mTg_eq h0) (fun h => absurd h hc) (fun _ => kk rfl ls (hF.stk hS.tl.tl))
    · cases hst
  · cases hst
theorem so_if_lt (off : Int) : mSoP (.ifCond .lt off) := by
  intro p l e R s m args below meth c H locs Q cells slots D cT A g d mm φ L S ls nL pc cal mi b pc' L' S' mm' len hst C hdg hlen hF kk
  obtain ⟨hx, hb, hml, hr, hlk, hown, hts, hnw, hK, hA, ho, hini, hd1, hd2⟩ := C
  have hS := hF.2.2.2
  have hlen : len = 3 := hlen.resolve_right (by intro h; cases h)
  subst hlen
  unfold mStep at hst
  dsimp only at hst
  split at hst
  · rename_i x S
    split at hst
    · rename_i h0
      by_cases hc : mCmp .lt x 0 = true
      · rw [if_pos hc] at hst
        obtain ⟨rfl, rfl, rfl, rfl⟩ := mGo_inj hst
        simp only [mCmp, decide_eq_true_eq, Bool.not_eq_true', decide_eq_false_iff_not] at hc
        exact lv_if_lt hx hb hdg (mTg_eq h0) (fun _ => kk rfl ls (hF.stk hS.tl)) (fun h => absurd hc h)
      · rw [if_neg hc] at hst
        obtain ⟨rfl, rfl, rfl, rfl⟩ := mGo_inj hst
        simp only [mCmp, decide_eq_true_eq, Bool.not_eq_true', decide_eq_false_iff_not, Classical.not_not] at hc
        exact lv_if_lt hx hb hdg (mTg_eq h0) (fun h => absurd h hc) (fun _ => kk rfl ls (hF.stk hS.tl))
    · cases hst
  · cases hst
theorem so_icmp_ge (off : Int) : mSoP (.if_icmp .ge off) := by
  intro p l e R s m args below meth c H locs Q cells slots D cT A g d mm φ L S ls nL pc cal mi b pc' L' S' mm' len hst C hdg hlen hF kk
  obtain ⟨hx, hb, hml, hr, hlk, hown, hts, hnw, hK, hA, ho, hini, hd1, hd2⟩ := C
  have hS := hF.2.2.2
  have hlen : len = 3 := hlen.resolve_right (by intro h; cases h)
  subst hlen
  unfold mStep at hst
  dsimp only at hst
  split at hst
  · rename_i y x S
    split at hst
    · rename_i h0
      by_cases hc : mCmp .ge x y = true
      · rw [if_pos hc] at hst
        obtain ⟨rfl, rfl, rfl, rfl⟩ := mGo_inj hst
        simp only [mCmp, decide_eq_true_eq, Bool.not_eq_true', decide_eq_false_iff_not] at hc
        exact lv_icmp_ge hx hb hdg (mTg_eq h0) (fun _ => kk rfl ls (hF.stk hS.tl.tl)) (fun h => absurd hc h)
      · rw [if_neg hc] at hst
        obtain ⟨rfl, rfl, rfl, rfl⟩ := mGo_inj hst
        simp only [mCmp, decide_eq_true_eq, Bool.not_eq_true', decide_eq_false_iff_not, Classical.not_not] at hc
        exact lv_icmp_ge hx hb hdg (mTg_eq h0) (fun h => absurd h hc) (fun _ => kk rfl ls (hF.stk hS.tl.tl))
    · cases hst
  · cases hst
theorem so_if_ge (off : Int) : mSoP (.ifCond .ge off) := by
  intro p l e R s m args below meth c H locs Q cells slots D cT A g d mm φ L S ls nL pc cal mi b pc' L' S' mm' len hst C hdg hlen hF kk
  obtain ⟨hx, hb, hml, hr, hlk, hown, hts, hnw, hK, hA, ho, hini, hd1, hd2⟩ := C
  have hS := hF.2.2.2
  have hlen : len = 3 := hlen.resolve_right (by intro h; cases h)
  subst hlen
  unfold mStep at hst
  dsimp only at hst
  split at hst
  · rename_i x S
    split at hst
    · rename_i h0
      by_cases hc : mCmp .ge x 0 = true
      · rw [if_pos hc] at hst
        obtain ⟨rfl, rfl, rfl, rfl⟩ := mGo_inj hst
        simp only [mCmp, decide_eq_true_eq, Bool.not_eq_true', decide_eq_false_iff_not] at hc
        exact lv_if_ge hx hb hdg (mTg_eq h0) (fun _ => kk rfl ls (hF.stk hS.tl)) (fun h => absurd hc h)
      · rw [if_neg hc] at hst
        obtain ⟨rfl, rfl, rfl, rfl⟩ := mGo_inj hst
        simp only [mCmp, decide_eq_true_eq, Bool.not_eq_true', decide_eq_false_iff_not, Classical.not_not] at hc
        exact lv_if_ge hx hb hdg (mTg_eq h0) (fun h => absurd h hc) (fun _ => kk rfl ls (hF.stk hS.tl))
    · cases hst
  · cases hst
theorem so_icmp_gt (off : Int) : mSoP (.if_icmp .gt off) := by
  intro p l e R s m args below meth c H locs Q cells slots D cT A g d mm φ L S ls nL pc cal mi b pc' L' S' mm' len hst C hdg hlen hF kk
  obtain ⟨hx, hb, hml, hr, hlk, hown, hts, hnw, hK, hA, ho, hini, hd1, hd2⟩ := C
  have hS := hF.2.2.2
  have hlen : len = 3 := hlen.resolve_right (by intro h; cases h)
  subst hlen
  unfold mStep at hst
  dsimp only at hst
  split at hst
  · rename_i y x S
    split at hst
    · rename_i h0
      by_cases hc : mCmp .gt x y = true
      · rw [if_pos hc] at hst
        obtain ⟨rfl, rfl, rfl, rfl⟩ := mGo_inj hst
        simp only [mCmp, decide_eq_true_eq, Bool.not_eq_true', decide_eq_false_iff_not] at hc
        exact lv_icmp_gt hx hb hdg (mTg_eq h0) (fun _ => kk rfl ls (hF.stk hS.tl.tl)) (fun h => absurd hc h)
      · rw [if_neg hc] at hst
        obtain ⟨rfl, rfl, rfl, rfl⟩ := mGo_inj hst
        simp only [mCmp, decide_eq_true_eq, Bool.not_eq_true', decide_eq_false_iff_not, Classical.not_not] at hc
        exact lv_icmp_gt hx hb hdg (mTg_eq h0) (fun h => absurd h hc) (fun _ => kk rfl ls (hF.stk hS.tl.tl))
    · cases hst
  · cases hst
theorem so_if_gt (off : Int) : mSoP (.ifCond .gt off) := by
  intro p l e R s m args below meth c H locs Q cells slots D cT A g d mm φ L S ls nL pc cal mi b pc' L' S' mm' len hst C hdg hlen hF kk
  obtain ⟨hx, hb, hml, hr, hlk, hown, hts, hnw, hK, hA, ho, hini, hd1, hd2⟩ := C
  have hS := hF.2.2.2
  have hlen : len = 3 := hlen.resolve_right (by intro h; cases h)
  subst hlen
  unfold mStep at hst
  dsimp only at hst
  split at hst
  · rename_i x S
    split at hst
    · rename_i h0
      by_cases hc : mCmp .gt x 0 = true
      · rw [if_pos hc] at hst
        obtain ⟨rfl, rfl, rfl, rfl⟩ := mGo_inj hst
        simp only [mCmp, decide_eq_true_eq, Bool.not_eq_true', decide_eq_false_iff_not] at hc
        exact lv_if_gt hx hb hdg (mTg_eq h0) (fun _ => kk rfl ls (hF.stk hS.tl)) (fun h => absurd hc h)
      · rw [if_neg hc] at hst
        obtain ⟨rfl, rfl, rfl, rfl⟩ := mGo_inj hst
        simp only [mCmp, decide_eq_true_eq, Bool.not_eq_true', decide_eq_false_iff_not, Classical.not_not] at hc
        exact lv_if_gt hx hb hdg (mTg_eq h0) (fun h => absurd h hc) (fun _ => kk rfl ls (hF.stk hS.tl))
    · cases hst
  · cases hst
theorem so_icmp_le (off : Int) : mSoP (.if_icmp .le off) := by
  intro p l e R s m args below meth c H locs Q cells slots D cT A g d mm φ L S ls nL pc cal mi b pc' L' S' mm' len hst C hdg hlen hF kk
  obtain ⟨hx, hb, hml, hr, hlk, hown, hts, hnw, hK, hA, ho, hini, hd1, hd2⟩ := C
  have hS := hF.2.2.2
  have hlen : len = 3 := hlen.resolve_right (by intro h; cases h)
  subst hlen
  unfold mStep at hst
  dsimp only at hst
  split at hst
  · rename_i y x S
    split at hst
    · rename_i h0
      by_cases hc : mCmp .le x y = true
      · rw [if_pos hc] at hst
        obtain ⟨rfl, rfl, rfl, rfl⟩ := mGo_inj hst
        simp only [mCmp, decide_eq_true_eq, Bool.not_eq_true', decide_eq_false_iff_not] at hc
        exact lv_icmp_le hx hb hdg (mTg_eq h0) (fun _ => kk rfl ls (hF.stk hS.tl.tl)) (fun h => absurd hc h)
      · rw [if_neg hc] at hst
        obtain ⟨rfl, rfl, rfl, rfl⟩ := mGo_inj hst
        simp only [mCmp, decide_eq_true_eq, Bool.not_eq_true', decide_eq_false_iff_not, Classical.not_not] at hc
        exact lv_icmp_le hx hb hdg (mTg_eq h0) (fun h => absurd h hc) (fun _ => kk rfl ls (hF.stk hS.tl.tl))
    · cases hst
  · cases hst
theorem so_if_le (off : Int) : mSoP (.ifCond .le off) := by
  intro p l e R s m args below meth c H locs Q cells slots D cT A g d mm φ L S ls nL pc cal mi b pc' L' S' mm' len hst C hdg hlen hF kk
  obtain ⟨hx, hb, hml, hr, hlk, hown, hts, hnw, hK, hA, ho, hini, hd1, hd2⟩ := C
  have hS := hF.2.2.2
  have hlen : len = 3 := hlen.resolve_right (by intro h; cases h)
  subst hlen
  unfold mStep at hst
  dsimp only at hst
  split at hst
  · rename_i x S
    split at hst
    · rename_i h0
      by_cases hc : mCmp .le x 0 = true
      · rw [if_pos hc] at hst
        obtain ⟨rfl, rfl, rfl, rfl⟩ := mGo_inj hst
        simp only [mCmp, decide_eq_true_eq, Bool.not_eq_true', decide_eq_false_iff_not] at hc
        exact lv_if_le hx hb hdg (mTg_eq h0) (fun _ => kk rfl ls (hF.stk hS.tl)) (fun h => absurd hc h)
      · rw [if_neg hc] at hst
        obtain ⟨rfl, rfl, rfl, rfl⟩ := mGo_inj hst
        simp only [mCmp, decide_eq_true_eq, Bool.not_eq_true', decide_eq_false_iff_not, Classical.not_not] at hc
        exact lv_if_le hx hb hdg (mTg_eq h0) (fun h => absurd h hc) (fun _ => kk rfl ls (hF.stk hS.tl))
    · cases hst
  · cases hst
theorem so_ifnull (off : Int) : mSoP (.ifnull off) := by
  intro p l e R s m args below meth c H locs Q cells slots D cT A g d mm φ L S ls nL pc cal mi b pc' L' S' mm' len hst C hdg hlen hF kk
  obtain ⟨hx, hb, hml, hr, hlk, hown, hts, hnw, hK, hA, ho, hini, hd1, hd2⟩ := C
  have hS := hF.2.2.2
  have hlen : len = 3 := hlen.resolve_right (by intro h; cases h)
  subst hlen
  unfold mStep at hst
  dsimp only at hst
  split at hst
  · rename_i S
    dsimp only [mSwt] at hst
    split at hst
    · rename_i h0
      obtain ⟨rfl, rfl, rfl, rfl⟩ := mGo_inj hst
      exact lv_ifnullN hx hb hdg (mTg_eq h0) (kk rfl ls (hF.stk hS.tl))
    · cases hst
  · rename_i k S
    obtain ⟨rfl, rfl, rfl, rfl⟩ := mGo_inj hst
    exact lv_ifnull hx hb hdg (kk rfl ls (hF.stk hS.tl))
  · cases hst
theorem so_ifnonnull (off : Int) : mSoP (.ifnonnull off) := by
  intro p l e R s m args below meth c H locs Q cells slots D cT A g d mm φ L S ls nL pc cal mi b pc' L' S' mm' len hst C hdg hlen hF kk
  obtain ⟨hx, hb, hml, hr, hlk, hown, hts, hnw, hK, hA, ho, hini, hd1, hd2⟩ := C
  have hS := hF.2.2.2
  have hlen : len = 3 := hlen.resolve_right (by intro h; cases h)
  subst hlen
  unfold mStep at hst
  dsimp only at hst
  split at hst
  · rename_i S
    obtain ⟨rfl, rfl, rfl, rfl⟩ := mGo_inj hst
    exact lv_ifnonnullN hx hb hdg (kk rfl ls (hF.stk hS.tl))
  · rename_i k S
    dsimp only [mSwt] at hst
    split at hst
    · rename_i h0
      obtain ⟨rfl, rfl, rfl, rfl⟩ := mGo_inj hst
      exact lv_ifnonnull hx hb hdg (mTg_eq h0) (kk rfl ls (hF.stk hS.tl))
    · cases hst
  · cases hst
theorem so_tableswitch (df lo hi : Int) (offs : Array Int) : mSoP (.tableswitch df lo hi offs) := by
  intro p l e R s m args below meth c H locs Q cells slots D cT A g d mm φ L S ls nL pc cal mi b pc' L' S' mm' len hst C hdg hlen hF kk
  obtain ⟨hx, hb, hml, hr, hlk, hown, hts, hnw, hK, hA, ho, hini, hd1, hd2⟩ := C
  have hS := hF.2.2.2
  unfold mStep at hst
  dsimp only [mSwt] at hst
  split at hst
  · rename_i x S
    by_cases ht : x.toInt < lo ∨ hi < x.toInt
    · rw [if_pos ht] at hst
      dsimp only at hst
      split at hst
      · rename_i h0
        obtain ⟨rfl, rfl, rfl, rfl⟩ := mGo_inj hst
        exact lv_tableOut hx hb hdg ht (mTg_eq h0) (kk rfl ls (hF.stk hS.tl))
      · cases hst
    · rw [if_neg ht] at hst
      split at hst
      · rename_i off heq
        split at hst
        · rename_i h0
          obtain ⟨rfl, rfl, rfl, rfl⟩ := mGo_inj hst
          exact lv_tableIn hx hb hdg (fun h => ht (Or.inl h)) (fun h => ht (Or.inr h)) heq (mTg_eq h0) (kk rfl ls (hF.stk hS.tl))
        · cases hst
      · cases hst
  · cases hst
theorem so_lookupswitch (df : Int) (ps : Array (Int × Int)) : mSoP (.lookupswitch df ps) := by
  intro p l e R s m args below meth c H locs Q cells slots D cT A g d mm φ L S ls nL pc cal mi b pc' L' S' mm' len hst C hdg hlen hF kk
  obtain ⟨hx, hb, hml, hr, hlk, hown, hts, hnw, hK, hA, ho, hini, hd1, hd2⟩ := C
  have hS := hF.2.2.2
  unfold mStep at hst
  dsimp only [mSwt] at hst
  split at hst
  · rename_i x S
    split at hst
    · rename_i hp
      split at hst
      · rename_i h0
        obtain ⟨rfl, rfl, rfl, rfl⟩ := mGo_inj hst
        exact lv_lookup hx hb hdg hp rfl (mTg_eq h0) (kk rfl ls (hF.stk hS.tl))
      · cases hst
    · cases hst
  · cases hst
theorem so_ldc (j : Nat) : mSoP (.ldc j) := by
  intro p l e R s m args below meth c H locs Q cells slots D cT A g d mm φ L S ls nL pc cal mi b pc' L' S' mm' len hst C hdg hlen hF kk
  obtain ⟨hx, hb, hml, hr, hlk, hown, hts, hnw, hK, hA, ho, hini, hd1, hd2⟩ := C
  have hS := hF.2.2.2
  have hlen : len = 2 := hlen.resolve_right (by intro h; cases h)
  subst hlen
  unfold mStep at hst
  dsimp only at hst
  split at hst
  · rename_i v q heq
    obtain ⟨rfl, rfl, rfl, rfl⟩ := mGo_inj hst
    exact lv_ldc hx hb hown (hts _ (mTb_in (t_I ho heq) rfl)) hdg (kk rfl ls (hF.stk hS.int))
  · cases hst
theorem so_ldc_w (j : Nat) : mSoP (.ldc_w j) := by
  intro p l e R s m args below meth c H locs Q cells slots D cT A g d mm φ L S ls nL pc cal mi b pc' L' S' mm' len hst C hdg hlen hF kk
  obtain ⟨hx, hb, hml, hr, hlk, hown, hts, hnw, hK, hA, ho, hini, hd1, hd2⟩ := C
  have hS := hF.2.2.2
  have hlen : len = 3 := hlen.resolve_right (by intro h; cases h)
  subst hlen
  unfold mStep at hst
  dsimp only at hst
  split at hst
  · rename_i v q heq
    obtain ⟨rfl, rfl, rfl, rfl⟩ := mGo_inj hst
    exact lv_ldcw hx hb hown (hts _ (mTb_in (t_I ho heq) rfl)) hdg (kk rfl ls (hF.stk hS.int))
  · cases hst
theorem so_ldc2_w (j : Nat) : mSoP (.ldc2_w j) := by
  intro p l e R s m args below meth c H locs Q cells slots D cT A g d mm φ L S ls nL pc cal mi b pc' L' S' mm' len hst C hdg hlen hF kk
  obtain ⟨hx, hb, hml, hr, hlk, hown, hts, hnw, hK, hA, ho, hini, hd1, hd2⟩ := C
  have hS := hF.2.2.2
  have hlen : len = 3 := hlen.resolve_right (by intro h; cases h)
  subst hlen
  unfold mStep at hst
  dsimp only at hst
  split at hst
  · rename_i v q heq
    obtain ⟨rfl, rfl, rfl, rfl⟩ := mGo_inj hst
    exact lv_ldc2 hx hb hown (hts _ (mTb_in (t_J ho heq) rfl)) hdg (kk rfl ls (hF.stk hS.long))
  · cases hst
theorem so_pure : ∀ i : Instr, mPure i = true → mSoP i := by
  intro i hi
  cases i <;> first
    | exact Bool.noConfusion (show false = true from hi)
    | exact so_iadd | exact so_isub | exact so_imul | exact so_iand | exact so_ior | exact so_ixor | exact so_ishl | exact so_ishr | exact so_iushr
    | exact so_ladd | exact so_lsub | exact so_lmul | exact so_irem | exact so_ldiv | exact so_lrem | exact so_lshl | exact so_lcmp
    | exact so_ineg | exact so_lneg | exact so_i2l | exact so_l2i | exact so_i2b | exact so_i2c | exact so_dup | exact so_dup2 | exact so_pop
    | exact so_iconst _ | exact so_bipush _ | exact so_sipush _ | exact so_lconst _
    | exact so_iload _ | exact so_iload_n _ | exact so_lload _ | exact so_lload_n _ | exact so_aload _ | exact so_aload_n _
    | exact so_istore _ | exact so_istore_n _ | exact so_lstore _ | exact so_lstore_n _ | exact so_astore _ | exact so_astore_n _ | exact so_iinc _ _
    | exact so_goto _ | exact so_ifnull _ | exact so_ifnonnull _ | exact so_tableswitch _ _ _ _ | exact so_lookupswitch _ _
    | exact so_ldc _ | exact so_ldc_w _ | exact so_ldc2_w _
    | (rename_i cnd off; cases cnd <;> first | exact so_icmp_eq _ | exact so_icmp_ne _ | exact so_icmp_lt _ | exact so_icmp_ge _ | exact so_icmp_gt _ | exact so_icmp_le _ | exact so_if_eq _ | exact so_if_ne _ | exact so_if_lt _ | exact so_if_ge _ | exact so_if_gt _ | exact so_if_le _)
