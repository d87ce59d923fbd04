/-! Conditions for runs: what must hold ahead of an instruction so that a run from there ends as wanted. -/
def mEs (d mi b : Nat) (g : mG) (st : mSt) (Q : Option Value → mMem → Prop) : Prop := ∃ (N0 : Nat) (r : Option Value) (m' : mMem), Q r m' ∧ ∀ N n, N0 ≤ N → N0 ≤ n → mRun (mCall N d) d mi b g n st = some (r, m')
def mEv (d mi : Nat) (as : List Value) (m : mMem) (Q : Option Value → mMem → Prop) : Prop := ∃ (N0 : Nat) (r : Option Value) (m' : mMem), Q r m' ∧ ∀ N, N0 ≤ N → mCall N d mi as m = some (r, m')
section MVC
variable {d mi b : Nat} {g : mG} {Q Q' : Option Value → mMem → Prop} {pc : Nat} {L : mLo} {S : List Value} {m : mMem} {i : Instr} {len : Nat}
theorem mEs.imp {st : mSt} (h : mEs d mi b g st Q) (hq : ∀ r m', Q r m' → Q' r m') : mEs d mi b g st Q' := by
  obtain ⟨N0, r, m', h1, h2⟩ := h
  exact ⟨N0, r, m', hq r m' h1, h2⟩
theorem mEv.imp {as : List Value} (h : mEv d mi as m Q) (hq : ∀ r m', Q r m' → Q' r m') : mEv d mi as m Q' := by
  obtain ⟨N0, r, m', h1, h2⟩ := h
  exact ⟨N0, r, m', hq r m' h1, h2⟩
theorem mEs.go {st' : mSt} (hd : decode g.2.1 pc = .ok (i, len)) (hl : len = mLen i ∨ mSw i = true) (N1 : Nat) (h : ∀ N, N1 ≤ N → mStep (mCall N d) d mi b g i pc L S m = some (.inl st')) (k : mEs d mi b g st' Q) : mEs d mi b g (pc, L, S, m) Q := by
  obtain ⟨N0, r, m', h1, h2⟩ := k
  refine ⟨N0 + N1 + 1, r, m', h1, fun N n hN hn => ?_⟩
  obtain ⟨n', rfl⟩ : ∃ n', n = n' + 1 := ⟨n - 1, by omega⟩
  unfold mRun
  rw [hd]
  dsimp only
  rw [if_pos hl, h N (by omega)]
  exact h2 N n' (by omega) (by omega)
theorem mEs.rt {r : Option Value} {m' : mMem} (hd : decode g.2.1 pc = .ok (i, len)) (hl : len = mLen i ∨ mSw i = true) (h : ∀ N, mStep (mCall N d) d mi b g i pc L S m = some (.inr (r, m'))) (k : Q r m') : mEs d mi b g (pc, L, S, m) Q := by
  refine ⟨1, r, m', k, fun N n hN hn => ?_⟩
  obtain ⟨n', rfl⟩ : ∃ n', n = n' + 1 := ⟨n - 1, by omega⟩
  unfold mRun
  rw [hd]
  dsimp only
  rw [if_pos hl, h N]
theorem mEv.of {as : List Value} (hg : mGm[mi]? = some g) (hl : (mEa as).length ≤ g.2.2.1) (k : mEs d mi (mBase as) g (0, mEn as g.2.2.1, [], m) Q) : mEv (d + 1) mi as m Q := by
  obtain ⟨N0, r, m', h1, h2⟩ := k
  refine ⟨N0, r, m', h1, fun N hN => ?_⟩
  unfold mCall
  rw [hg]
  dsimp only
  rw [if_pos hl]
  exact h2 N N hN hN
end MVC
def mCP (c : ClassFile.Cond) (x y : Int32) : Prop := match c with
  | .eq => x = y
  | .ne => ¬ x = y
  | .lt => x < y
  | .ge => y ≤ x
  | .gt => y < x
  | .le => x ≤ y
theorem mCP_iff (c : ClassFile.Cond) (x y : Int32) : mCmp c x y = true ↔ mCP c x y := by
  cases c <;> simp [mCmp, mCP]
/-- ahead of an instruction that isn't a call of a method of the tables -/
def mW (d mi b : Nat) (g : mG) (i : Instr) (pc : Nat) (L : mLo) (S : List Value) (m : mMem) (K : mSt → Prop) (Q : Option Value → mMem → Prop) : Prop :=
  match i with
  | .iconst n => ∃ v, Int32.ofInt n = v ∧ K (pc + 1, L, .int v :: S, m)
  | .lconst n => ∃ v, Int64.ofNat (n : Nat) = v ∧ K (pc + 1, L, .long v :: S, m)
  | .bipush n => ∃ v, (Int8.ofInt n).toInt32 = v ∧ K (pc + 2, L, .int v :: S, m)
  | .sipush n => ∃ v, (Int16.ofInt n).toInt32 = v ∧ K (pc + 3, L, .int v :: S, m)
  | .iload _ | .iload_n _ | .lload _ | .lload_n _ | .aload _ | .aload_n _ => match mLdK i with
    | some (k, j) => match mLd L j with
      | some v => mKind k v = true ∧ K (pc + mLen i, L, v :: S, m)
      | none => False
    | none => False
  | .istore _ | .istore_n _ | .lstore _ | .lstore_n _ | .astore _ | .astore_n _ => match mStK i, S with
    | some (k, j), v :: S => mKind k v = true ∧ j + (if k = 1 then 1 else 0) < L.length ∧ K (pc + mLen i, if k = 1 then mS2 L j v else mS1 L j v, S, m)
    | _, _ => False
  | .iinc j n => match mLd L j with
    | some (.int x) => j < L.length ∧ ∃ v, x + Int32.ofInt n = v ∧ K (pc + 3, mS1 L j (.int v), S, m)
    | _ => False
  | .iadd | .isub | .imul | .iand | .ior | .ixor | .ishl | .ishr | .iushr => match mBin i, S with
    | some f, .int y :: .int x :: S => K (pc + 1, L, .int (f x y) :: S, m)
    | _, _ => False
  | .ladd | .lsub | .lmul => match mBinL i, S with
    | some f, .long y :: .long x :: S => K (pc + 1, L, .long (f x y) :: S, m)
    | _, _ => False
  | .irem => match S with
    | .int y :: .int x :: S => y ≠ 0 ∧ K (pc + 1, L, .int (x - x / y * y) :: S, m)
    | _ => False
  | .ldiv => match S with
    | .long y :: .long x :: S => y ≠ 0 ∧ K (pc + 1, L, .long (x / y) :: S, m)
    | _ => False
  | .lrem => match S with
    | .long y :: .long x :: S => y ≠ 0 ∧ K (pc + 1, L, .long (x - x / y * y) :: S, m)
    | _ => False
  | .lshl => match S with
    | .int y :: .long x :: S => K (pc + 1, L, .long (x <<< (y.toInt64 &&& 63)) :: S, m)
    | _ => False
  | .lcmp => match S with
    | .long y :: .long x :: S => K (pc + 1, L, .int (lg_cmp x y) :: S, m)
    | _ => False
  | .ineg | .lneg | .i2l | .l2i | .i2b | .i2c => match S with
    | v :: S => match mUn i v with
      | some w => K (pc + 1, L, w :: S, m)
      | none => False
    | _ => False
  | .dup => match S with
    | v :: S => v.category = 1 ∧ K (pc + 1, L, v :: v :: S, m)
    | _ => False
  | .dup2 => match S with
    | v :: w :: S => (v.category = 1 ∧ w.category = 1) ∧ K (pc + 1, L, v :: w :: v :: w :: S, m)
    | _ => False
  | .pop => match S with
    | v :: S => v.category = 1 ∧ K (pc + 1, L, S, m)
    | _ => False
  | .goto off => ∃ t, mTg pc off = t ∧ 0 ≤ (pc : Int) + off ∧ K (t, L, S, m)
  | .if_icmp c off => match S with
    | .int y :: .int x :: S => ∃ t, mTg pc off = t ∧ 0 ≤ (pc : Int) + off ∧ (mCP c x y → K (t, L, S, m)) ∧ (¬ mCP c x y → K (pc + 3, L, S, m))
    | _ => False
  | .ifCond c off => match S with
    | .int x :: S => ∃ t, mTg pc off = t ∧ 0 ≤ (pc : Int) + off ∧ (mCP c x 0 → K (t, L, S, m)) ∧ (¬ mCP c x 0 → K (pc + 3, L, S, m))
    | _ => False
  | .ifnull off => match S with
    | .null :: S => ∃ t, mTg pc off = t ∧ 0 ≤ (pc : Int) + off ∧ K (t, L, S, m)
    | .ref _ :: S => K (pc + 3, L, S, m)
    | _ => False
  | .ifnonnull off => match S with
    | .null :: S => K (pc + 3, L, S, m)
    | .ref _ :: S => ∃ t, mTg pc off = t ∧ 0 ≤ (pc : Int) + off ∧ K (t, L, S, m)
    | _ => False
  | .tableswitch df lo hi offs => match S with
    | .int x :: S => ∃ off, (if x.toInt < lo ∨ hi < x.toInt then some df else offs[(x.toInt - lo).toNat]?) = some off ∧ 0 ≤ (pc : Int) + off ∧ K (mTg pc off, L, S, m)
    | _ => False
  | .lookupswitch df ps => match S with
    | .int x :: S => (ps.toList.zip (ps.toList.drop 1)).all (fun (a, next) => a.1 < next.1) = true ∧ ∃ off, Op.lookupswitch.offset ps.toList df x.toInt = off ∧ 0 ≤ (pc : Int) + off ∧ K (mTg pc off, L, S, m)
    | _ => False
  | .ldc j | .ldc_w j => ∃ v p, (mLI g.2.2.2.2.1).lookup j = some (v, p) ∧ K (pc + mLen i, L, .int v :: S, m)
  | .ldc2_w j => ∃ v p, (mLJ g.2.2.2.2.1).lookup j = some (v, p) ∧ K (pc + 3, L, .long v :: S, m)
  | .getfield j => match S with
    | .ref k :: S => ∃ ci f p, (mLF g.2.2.2.2.1).lookup j = some (ci, f, p) ∧ (m.1 k = some (.inr ci) ∧ k ≠ 0) ∧ ∃ v, m.2.1 k f = v ∧ K (pc + 3, L, v :: S, m)
    | _ => False
  | .putfield j => match S with
    | v :: .ref k :: S => ∃ ci f p, (mLF g.2.2.2.2.1).lookup j = some (ci, f, p) ∧ (m.1 k = some (.inr ci) ∧ k ≠ 0 ∧ narrow (mTy ci f) v = v ∧ fits (mTy ci f) v = true ∧ (((mCl[ci]?).map (fun q => (q.2.1 f).2.2.2)) = some true → g.2.2.2.2.2.2.2 = true ∧ g.2.2.2.2.2.2.1 = ci)) ∧ K (pc + 3, L, S, mSetF m k f v)
    | _ => False
  | .iaload | .baload | .caload => match S with
    | .int j :: .ref k :: S => ∃ ty n, m.1 k = some (.inl (ty, n)) ∧ (mArT i ty && mIn j n && (k != 0 || mi == 0)) = true ∧ ∃ v, m.2.2.1 k j.toNatClampNeg = v ∧ K (pc + 1, L, .int v :: S, m)
    | _ => False
  | .laload => match S with
    | .int j :: .ref k :: S => ∃ n, m.1 k = some (.inl (.long, n)) ∧ (mIn j n && k != 0) = true ∧ ∃ v, m.2.2.2.1 k j.toNatClampNeg = v ∧ K (pc + 1, L, .long v :: S, m)
    | _ => False
  | .iastore | .bastore | .castore => match S with
    | .int x :: .int j :: .ref k :: S => ∃ ty n, m.1 k = some (.inl (ty, n)) ∧ (mArT i ty && mIn j n && k != 0) = true ∧ ∃ v, vp_nar ty x = v ∧ K (pc + 1, L, S, mSetI m k (upd (m.2.2.1 k) j.toNatClampNeg v))
    | _ => False
  | .lastore => match S with
    | .long x :: .int j :: .ref k :: S => ∃ n, m.1 k = some (.inl (.long, n)) ∧ (mIn j n && k != 0) = true ∧ K (pc + 1, L, S, mSetJ m k (vp_updL (m.2.2.2.1 k) j.toNatClampNeg x))
    | _ => False
  | .arraylength => match S with
    | .ref k :: S => ∃ ty n, m.1 k = some (.inl (ty, n)) ∧ (k != 0 || mi == 0) = true ∧ K (pc + 1, L, .int (Int32.ofNat n) :: S, m)
    | _ => False
  | .new j => ∃ ci p st k, (mLC g.2.2.2.2.1).lookup j = some (ci, p) ∧ (mLN mi).lookup pc = some st ∧ 64 * b + st = k ∧ (m.1 k = none ∧ k ≠ 0) ∧ K (pc + 3, L, .ref k :: S, mNewO m k ci)
  | .newarray a => match S with
    | .int n :: S => ∃ st k N, (mLN mi).lookup pc = some st ∧ 64 * b + st = k ∧ n.toNatClampNeg = N ∧ (m.1 k = none ∧ k ≠ 0 ∧ ¬ n < 0 ∧ N ≤ 60000 ∧ mArP (newarray.typeOf a) ≠ 0) ∧ K (pc + 2, L, .ref k :: S, mNewA m k (newarray.typeOf a) N)
    | _ => False
  | .invokespecial j => match S with
    | .ref _ :: S => ∃ p, (mLM g.2.2.2.2.1).lookup j = some (901, p, 0) ∧ (1 ≤ d ∧ (S.map Value.category).sum ≤ 8) ∧ K (pc + 3, L, S, m)
    | _ => False
  | .invokestatic j => ∃ cm p, (mLM g.2.2.2.2.1).lookup j = some (cm, p, 0) ∧ (match cm, S with
      | 902, .int n :: .int dp :: .ref k1 :: .int sp :: .ref k0 :: S => ∃ n0 n1, m.1 k0 = some (.inl (.int, n0)) ∧ m.1 k1 = some (.inl (.int, n1)) ∧ (k0 != 0 && k1 != 0 && !decide (sp < 0) && !decide (dp < 0) && !decide (n < 0) && decide (sp.toNatClampNeg + n.toNatClampNeg ≤ n0) && decide (dp.toNatClampNeg + n.toNatClampNeg ≤ n1) && decide (1 ≤ d) && decide ((S.map Value.category).sum ≤ 8)) = true ∧ K (pc + 3, L, S, mSetI m k1 (va_cpy (m.2.2.1 k0) (m.2.2.1 k1) sp.toNatClampNeg dp.toNatClampNeg n.toNatClampNeg))
      | 903, .int y :: .int x :: S => (1 ≤ d ∧ (S.map Value.category).sum ≤ 8) ∧ K (pc + 3, L, .int (if x < y then y else x) :: S, m)
      | 904, .long y :: .long x :: S => (1 ≤ d ∧ (S.map Value.category).sum ≤ 8) ∧ K (pc + 3, L, .long (if y < x then y else x) :: S, m)
      | 905, .long x :: S => (1 ≤ d ∧ (S.map Value.category).sum ≤ 8) ∧ K (pc + 3, L, .long (if 0 < x then x else -x) :: S, m)
      | _, _ => False)
  | .ireturn => match S, g.2.2.2.1 with
    | [.int v], some ty => (narrow ty (.int v) = .int v ∧ ty ≠ .long) ∧ Q (some (.int v)) m
    | _, _ => False
  | .lreturn => match S, g.2.2.2.1 with
    | [.long v], some .long => Q (some (.long v)) m
    | _, _ => False
  | .areturn => match S, g.2.2.2.1 with
    | [.ref v], some (.object _) => Q (some (.ref v)) m
    | _, _ => False
  | .return_ => match S, g.2.2.2.1 with
    | [], none => Q none m
    | _, _ => False
  | _ => False
/-- an outcome that is as wanted -/
def mH (o : Option (mSt ⊕ mRs)) (K : mSt → Prop) (Q : Option Value → mMem → Prop) : Prop := match o with
  | some (.inl st) => K st
  | some (.inr r) => Q r.1 r.2
  | none => False
theorem mH_es {d mi b : Nat} {g : mG} {Q : Option Value → mMem → Prop} {pc : Nat} {L : mLo} {S : List Value} {m : mMem} {i : Instr} {len : Nat} (hd : decode g.2.1 pc = .ok (i, len)) (hl : len = mLen i ∨ mSw i = true) {o : Option (mSt ⊕ mRs)} (ho : ∀ cal, mStep cal d mi b g i pc L S m = o) {K : mSt → Prop} (hK : ∀ st, K st → mEs d mi b g st Q) (h : mH o K Q) : mEs d mi b g (pc, L, S, m) Q := by
  cases o with
  | none => exact h.elim
  | some x =>
    cases x with
    | inl st => exact mEs.go hd hl 0 (fun N _ => ho _) (hK st h)
    | inr r => exact mEs.rt (r := r.1) (m' := r.2) hd hl (fun N => ho _) h
theorem mH_pos {c : Prop} [Decidable c] {a e : Option (mSt ⊕ mRs)} {K : mSt → Prop} {Q : Option Value → mMem → Prop} (hc : c) (h : mH a K Q) : mH (if c then a else e) K Q := by rw [if_pos hc]; exact h
