/-! The mini machine: a small-step function over named cells; its steps are the machine's own (part 05 on). -/
/-- what a cell is: an array (component, length), or an object of the class with that number -/
abbrev mLy : Type := (FieldType × Nat) ⊕ Nat
/-- the memory: what each name is; fields; ints (and bytes, chars, booleans) of arrays; longs of arrays; cells made, slots made -/
abbrev mMem : Type := (Nat → Option mLy) × (Nat → Nat → Value) × (Nat → Nat → Int32) × (Nat → Nat → Int64) × Nat × Nat
abbrev mLo : Type := List (Option Value)
abbrev mSt : Type := Nat × mLo × List Value × mMem
abbrev mRs : Type := Option Value × mMem
def mRow {α : Type} (f : Nat → α) (k : Nat) (g : α) : Nat → α := fun j => if j = k then g else f j
def mSetF (m : mMem) (k i : Nat) (v : Value) : mMem := (m.1, mRow m.2.1 k (updV (m.2.1 k) i v), m.2.2)
def mSetI (m : mMem) (k : Nat) (f : Nat → Int32) : mMem := (m.1, m.2.1, mRow m.2.2.1 k f, m.2.2.2)
def mSetJ (m : mMem) (k : Nat) (f : Nat → Int64) : mMem := (m.1, m.2.1, m.2.2.1, mRow m.2.2.2.1 k f, m.2.2.2.2)
def mDef (ci : Nat) : Nat → Value := fun i => if i < mNf ci then defaultValue (mTy ci i) else .null
def mNewO (m : mMem) (k ci : Nat) : mMem := (mRow m.1 k (some (.inr ci)), mRow m.2.1 k (mDef ci), m.2.2.1, m.2.2.2.1, m.2.2.2.2.1 + 1, m.2.2.2.2.2 + mNf ci)
def mNewA (m : mMem) (k : Nat) (ty : FieldType) (n : Nat) : mMem := (mRow m.1 k (some (.inl (ty, n))), m.2.1, mRow m.2.2.1 k (fun _ => 0), mRow m.2.2.2.1 k (fun _ => 0), m.2.2.2.2.1 + 1, m.2.2.2.2.2 + n)
-- locals
def mLd (L : mLo) (i : Nat) : Option Value := match L[i]? with
  | some (some v) => some v
  | _ => none
def mKl (L : mLo) (i : Nat) : mLo := match i with
  | 0 => L
  | j + 1 => match mLd L j with
    | some v => if v.category = 2 then L.set j none else L
    | none => L
def mS1 (L : mLo) (i : Nat) (v : Value) : mLo := (mKl L i).set i (some v)
def mS2 (L : mLo) (i : Nat) (v : Value) : mLo := ((mKl L i).set i (some v)).set (i + 1) none
def mEa : List Value → mLo
  | [] => []
  | v :: vs => if v.category = 2 then some v :: none :: mEa vs else some v :: mEa vs
def mEn (args : List Value) (n : Nat) : mLo := mEa args ++ List.replicate (n - (mEa args).length) none
-- instructions
def mLen : Instr → Nat
  | .aload _ | .astore _ | .iload _ | .istore _ | .lload _ | .lstore _ | .bipush _ | .ldc _ | .newarray _ => 2
  | .getfield _ | .putfield _ | .goto _ | .if_icmp _ _ | .ifCond _ _ | .ifnull _ | .ifnonnull _ | .iinc _ _ | .invokespecial _ | .invokestatic _ | .invokevirtual _ | .ldc_w _ | .ldc2_w _ | .new _ | .sipush _ => 3
  | _ => 1
def mBin : Instr → Option (Int32 → Int32 → Int32)
  | .iadd => some (fun x y => x + y)
  | .isub => some (fun x y => x - y)
  | .imul => some (fun x y => x * y)
  | .iand => some (fun x y => x &&& y)
  | .ior => some (fun x y => x ||| y)
  | .ixor => some (fun x y => x ^^^ y)
  | .ishl => some (fun x y => x <<< (y &&& 31))
  | .ishr => some (fun x y => x >>> (y &&& 31))
  | .iushr => some (fun x y => (x.toUInt32 >>> (y.toUInt32 &&& Int32.toUInt32 31)).toInt32)
  | _ => none
def mBinL : Instr → Option (Int64 → Int64 → Int64)
  | .ladd => some (fun x y => x + y)
  | .lsub => some (fun x y => x - y)
  | .lmul => some (fun x y => x * y)
  | _ => none
def mPush : Instr → Option Value
  | .iconst n => some (.int (Int32.ofInt n))
  | .lconst n => some (.long (Int64.ofNat (n : Nat)))
  | .bipush n => some (.int (Int8.ofInt n).toInt32)
  | .sipush n => some (.int (Int16.ofInt n).toInt32)
  | _ => none
/-- the local that an instruction loads, stores; which kind: 0 int, 1 long, 2 reference -/
def mLdK : Instr → Option (Nat × Nat)
  | .iload i => some (0, i)
  | .iload_n i => some (0, i)
  | .lload i => some (1, i)
  | .lload_n i => some (1, i)
  | .aload i => some (2, i)
  | .aload_n i => some (2, i)
  | _ => none
def mStK : Instr → Option (Nat × Nat)
  | .istore i => some (0, i)
  | .istore_n i => some (0, i)
  | .lstore i => some (1, i)
  | .lstore_n i => some (1, i)
  | .astore i => some (2, i)
  | .astore_n i => some (2, i)
  | _ => none
def mKind (k : Nat) (v : Value) : Bool := match v with
  | .int _ => k == 0
  | .long _ => k == 1
  | .ref _ => k == 2
  | _ => false
def mCmp (c : ClassFile.Cond) (x y : Int32) : Bool := match c with
  | .eq => decide (x = y)
  | .ne => !decide (x = y)
  | .lt => decide (x < y)
  | .ge => decide (y ≤ x)
  | .gt => decide (y < x)
  | .le => decide (x ≤ y)
def mIn (i : Int32) (n : Nat) : Bool := !decide (i < 0) && decide (i.toNatClampNeg < n)
def mTg (pc : Nat) (off : Int) : Nat := ((pc : Int) + off).toNat
def mUn : Instr → Value → Option Value
  | .ineg, .int x => some (.int (-x))
  | .lneg, .long x => some (.long (-x))
  | .i2l, .int x => some (.long x.toInt64)
  | .l2i, .long x => some (.int x.toInt32)
  | .i2b, .int x => some (.int x.toInt8.toInt32)
  | .i2c, .int x => some (.int (x.toUInt32 % 65536).toInt32)
  | _, _ => none
/-- next: the state behind an instruction that goes on -/
def mGo (pc : Nat) (L : mLo) (S : List Value) (m : mMem) : Option (mSt ⊕ mRs) := some (.inl (pc, L, S, m))
def mArT (i : Instr) (ty : FieldType) : Bool := match i with
  | .iaload | .iastore => ty == .int
  | .baload | .bastore => ty == .byte || ty == .boolean
  | .caload | .castore => ty == .char
  | _ => false
def mLoad (mi : Nat) (i : Instr) (pc : Nat) (L : mLo) (S : List Value) (m : mMem) : Option (mSt ⊕ mRs) := match S with
  | .int j :: .ref k :: S => match m.1 k with
    | some (.inl (ty, n)) => if mArT i ty && mIn j n && (k != 0 || mi == 0) then mGo (pc + 1) L (.int (m.2.2.1 k j.toNatClampNeg) :: S) m else none
    | _ => none
  | _ => none
def mStore (i : Instr) (pc : Nat) (L : mLo) (S : List Value) (m : mMem) : Option (mSt ⊕ mRs) := match S with
  | .int x :: .int j :: .ref k :: S => match m.1 k with
    | some (.inl (ty, n)) => if mArT i ty && mIn j n && k != 0 then mGo (pc + 1) L S (mSetI m k (upd (m.2.2.1 k) j.toNatClampNeg (vp_nar ty x))) else none
    | _ => none
  | _ => none
def mCpy (d pc : Nat) (L : mLo) (S : List Value) (m : mMem) : Option (mSt ⊕ mRs) := match S with
  | .int n :: .int dp :: .ref k1 :: .int sp :: .ref k0 :: S => match m.1 k0, m.1 k1 with
    | some (.inl (.int, n0)), some (.inl (.int, n1)) =>
      if k0 != 0 && k1 != 0 && !decide (sp < 0) && !decide (dp < 0) && !decide (n < 0) && decide (sp.toNatClampNeg + n.toNatClampNeg ≤ n0) && decide (dp.toNatClampNeg + n.toNatClampNeg ≤ n1) && decide (1 ≤ d) && decide ((S.map Value.category).sum ≤ 8) then
        mGo (pc + 3) L S (mSetI m k1 (va_cpy (m.2.2.1 k0) (m.2.2.1 k1) sp.toNatClampNeg dp.toNatClampNeg n.toNatClampNeg))
      else none
    | _, _ => none
  | _ => none
/-- whether the receiver is as the kind of call wants it (0 virtual, 1 special, 2 static) -/
def mKok (kind : Nat) (g : mG) (As : List Value) (m : mMem) : Bool := match kind with
  | 0 => match As with
    | .ref k :: _ => decide (m.1 k = some (.inr g.2.2.2.2.2.2.1)) && k != 0 && !g.2.2.2.2.2.2.2
    | _ => false
  | 1 => match As with
    | .ref _ :: _ => g.2.2.2.2.2.2.1 != 99 && g.2.2.2.2.2.2.2
    | _ => false
  | 2 => g.2.2.2.2.2.2.1 == 99
  | _ => false
/-- a call: the method's number, how it is called -/
def mInv (cal : Nat → List Value → mMem → Option mRs) (d kind cm pc : Nat) (L : mLo) (S : List Value) (m : mMem) : Option (mSt ⊕ mRs) :=
  if cm = 901 then match S with
    | .ref _ :: S => if kind = 1 ∧ 1 ≤ d ∧ (S.map Value.category).sum ≤ 8 then mGo (pc + 3) L S m else none
    | _ => none
  else if cm = 902 then (if kind = 2 then mCpy d pc L S m else none)
  else if cm = 903 then match S with
    | .int y :: .int x :: S => if kind = 2 ∧ 1 ≤ d ∧ (S.map Value.category).sum ≤ 8 then mGo (pc + 3) L (.int (if x < y then y else x) :: S) m else none
    | _ => none
  else if cm = 904 then match S with
    | .long y :: .long x :: S => if kind = 2 ∧ 1 ≤ d ∧ (S.map Value.category).sum ≤ 8 then mGo (pc + 3) L (.long (if y < x then y else x) :: S) m else none
    | _ => none
  else if cm = 905 then match S with
    | .long x :: S => if kind = 2 ∧ 1 ≤ d ∧ (S.map Value.category).sum ≤ 8 then mGo (pc + 3) L (.long (if 0 < x then x else -x) :: S) m else none
    | _ => none
  else match mGm[cm]? with
    | some g =>
      let np := g.2.2.2.2.2.1
      if cm ≠ 0 ∧ np ≤ S.length ∧ ((S.drop np).map Value.category).sum ≤ 8 ∧ mKok kind g (S.take np).reverse m = true then
        match cal cm (S.take np).reverse m with
        | some (r, m') => mGo (pc + 3) L (r.toList ++ S.drop np) m'
        | none => none
      else none
    | none => none
def mSwt (pc : Nat) (off : Option Int) (L : mLo) (S : List Value) (m : mMem) : Option (mSt ⊕ mRs) := match off with
  | some off => if 0 ≤ (pc : Int) + off then mGo (mTg pc off) L S m else none
  | none => none
def mStep (cal : Nat → List Value → mMem → Option mRs) (d mi b : Nat) (g : mG) (i : Instr) (pc : Nat) (L : mLo) (S : List Value) (m : mMem) : Option (mSt ⊕ mRs) :=
  match i with
  | .iconst _ | .lconst _ | .bipush _ | .sipush _ => match mPush i with
    | some v => mGo (pc + mLen i) L (v :: S) m
    | none => none
  | .iload _ | .iload_n _ | .lload _ | .lload_n _ | .aload _ | .aload_n _ => match mLdK i with
    | some (k, j) => match mLd L j with
      | some v => if mKind k v then mGo (pc + mLen i) L (v :: S) m else none
      | none => none
    | none => none
  | .istore _ | .istore_n _ | .lstore _ | .lstore_n _ | .astore _ | .astore_n _ => match mStK i, S with
    | some (k, j), v :: S => if mKind k v ∧ j + (if k = 1 then 1 else 0) < L.length then mGo (pc + mLen i) (if k = 1 then mS2 L j v else mS1 L j v) S m else none
    | _, _ => none
  | .iinc j n => match mLd L j with
    | some (.int x) => if j < L.length then mGo (pc + 3) (mS1 L j (.int (x + Int32.ofInt n))) S m else none
    | _ => none
  | .iadd | .isub | .imul | .iand | .ior | .ixor | .ishl | .ishr | .iushr => match mBin i, S with
    | some f, .int y :: .int x :: S => mGo (pc + 1) L (.int (f x y) :: S) m
    | _, _ => none
  | .ladd | .lsub | .lmul => match mBinL i, S with
    | some f, .long y :: .long x :: S => mGo (pc + 1) L (.long (f x y) :: S) m
    | _, _ => none
  | .irem => match S with
    | .int y :: .int x :: S => if y ≠ 0 then mGo (pc + 1) L (.int (x - x / y * y) :: S) m else none
    | _ => none
  | .ldiv => match S with
    | .long y :: .long x :: S => if y ≠ 0 then mGo (pc + 1) L (.long (x / y) :: S) m else none
    | _ => none
  | .lrem => match S with
    | .long y :: .long x :: S => if y ≠ 0 then mGo (pc + 1) L (.long (x - x / y * y) :: S) m else none
    | _ => none
  | .lshl => match S with
    | .int y :: .long x :: S => mGo (pc + 1) L (.long (x <<< (y.toInt64 &&& 63)) :: S) m
    | _ => none
  | .lcmp => match S with
    | .long y :: .long x :: S => mGo (pc + 1) L (.int (lg_cmp x y) :: S) m
    | _ => none
  | .ineg | .lneg | .i2l | .l2i | .i2b | .i2c => match S with
    | v :: S => match mUn i v with
      | some w => mGo (pc + 1) L (w :: S) m
      | none => none
    | _ => none
  | .dup => match S with
    | v :: S => if v.category = 1 then mGo (pc + 1) L (v :: v :: S) m else none
    | _ => none
  | .dup2 => match S with
    | v :: w :: S => if v.category = 1 ∧ w.category = 1 then mGo (pc + 1) L (v :: w :: v :: w :: S) m else none
    | _ => none
  | .pop => match S with
    | v :: S => if v.category = 1 then mGo (pc + 1) L S m else none
    | _ => none
  | .goto off => mSwt pc (some off) L S m
  | .if_icmp c off => match S with
    | .int y :: .int x :: S => if 0 ≤ (pc : Int) + off then (if mCmp c x y then mGo (mTg pc off) L S m else mGo (pc + 3) L S m) else none
    | _ => none
  | .ifCond c off => match S with
    | .int x :: S => if 0 ≤ (pc : Int) + off then (if mCmp c x 0 then mGo (mTg pc off) L S m else mGo (pc + 3) L S m) else none
    | _ => none
  | .ifnull off => match S with
    | .null :: S => mSwt pc (some off) L S m
    | .ref _ :: S => mGo (pc + 3) L S m
    | _ => none
  | .ifnonnull off => match S with
    | .null :: S => mGo (pc + 3) L S m
    | .ref _ :: S => mSwt pc (some off) L S m
    | _ => none
  | .tableswitch df lo hi offs => match S with
    | .int x :: S => mSwt pc (if x.toInt < lo ∨ hi < x.toInt then some df else offs[(x.toInt - lo).toNat]?) L S m
    | _ => none
  | .lookupswitch df ps => match S with
    | .int x :: S => if (ps.toList.zip (ps.toList.drop 1)).all (fun (a, next) => a.1 < next.1) then mSwt pc (some (Op.lookupswitch.offset ps.toList df x.toInt)) L S m else none
    | _ => none
  | .ldc j | .ldc_w j => match (mLI g.2.2.2.2.1).lookup j with
    | some (v, _) => mGo (pc + mLen i) L (.int v :: S) m
    | none => none
  | .ldc2_w j => match (mLJ g.2.2.2.2.1).lookup j with
    | some (v, _) => mGo (pc + 3) L (.long v :: S) m
    | none => none
  | .getfield j => match (mLF g.2.2.2.2.1).lookup j, S with
    | some (ci, f, _), .ref k :: S => if m.1 k = some (.inr ci) ∧ k ≠ 0 then mGo (pc + 3) L (m.2.1 k f :: S) m else none
    | _, _ => none
  | .putfield j => match (mLF g.2.2.2.2.1).lookup j, S with
    | some (ci, f, _), v :: .ref k :: S =>
      if m.1 k = some (.inr ci) ∧ k ≠ 0 ∧ narrow (mTy ci f) v = v ∧ fits (mTy ci f) v = true ∧ (((mCl[ci]?).map (fun q => (q.2.1 f).2.2.2)) = some true → g.2.2.2.2.2.2.2 = true ∧ g.2.2.2.2.2.2.1 = ci) then mGo (pc + 3) L S (mSetF m k f v) else none
    | _, _ => none
  | .iaload | .baload | .caload => mLoad mi i pc L S m
  | .laload => match S with
    | .int j :: .ref k :: S => match m.1 k with
      | some (.inl (.long, n)) => if mIn j n && k != 0 then mGo (pc + 1) L (.long (m.2.2.2.1 k j.toNatClampNeg) :: S) m else none
      | _ => none
    | _ => none
  | .iastore | .bastore | .castore => mStore i pc L S m
  | .lastore => match S with
    | .long x :: .int j :: .ref k :: S => match m.1 k with
      | some (.inl (.long, n)) => if mIn j n && k != 0 then mGo (pc + 1) L S (mSetJ m k (vp_updL (m.2.2.2.1 k) j.toNatClampNeg x)) else none
      | _ => none
    | _ => none
  | .arraylength => match S with
    | .ref k :: S => match m.1 k with
      | some (.inl (_, n)) => if k != 0 || mi == 0 then mGo (pc + 1) L (.int (Int32.ofNat n) :: S) m else none
      | _ => none
    | _ => none
  | .new j => match (mLC g.2.2.2.2.1).lookup j, (mLN mi).lookup pc with
    | some (ci, _), some st => if m.1 (64 * b + st) = none ∧ 64 * b + st ≠ 0 then mGo (pc + 3) L (.ref (64 * b + st) :: S) (mNewO m (64 * b + st) ci) else none
    | _, _ => none
  | .newarray a => match S, (mLN mi).lookup pc with
    | .int n :: S, some st => if m.1 (64 * b + st) = none ∧ 64 * b + st ≠ 0 ∧ ¬ n < 0 ∧ n.toNatClampNeg ≤ 60000 ∧ mArP (newarray.typeOf a) ≠ 0 then mGo (pc + 2) L (.ref (64 * b + st) :: S) (mNewA m (64 * b + st) (newarray.typeOf a) n.toNatClampNeg) else none
    | _, _ => none
  | .invokevirtual j => match (mLM g.2.2.2.2.1).lookup j with
    | some (cm, _, 0) => mInv cal d 0 cm pc L S m
    | _ => none
  | .invokespecial j => match (mLM g.2.2.2.2.1).lookup j with
    | some (cm, _, _) => mInv cal d 1 cm pc L S m
    | none => none
  | .invokestatic j => match (mLM g.2.2.2.2.1).lookup j with
    | some (cm, _, 0) => mInv cal d 2 cm pc L S m
    | _ => none
  | .ireturn => match S, g.2.2.2.1 with
    | [.int v], some ty => if narrow ty (.int v) = .int v ∧ ty ≠ .long then some (.inr (some (.int v), m)) else none
    | _, _ => none
  | .lreturn => match S, g.2.2.2.1 with
    | [.long v], some .long => some (.inr (some (.long v), m))
    | _, _ => none
  | .areturn => match S, g.2.2.2.1 with
    | [.ref v], some (.object _) => some (.inr (some (.ref v), m))
    | _, _ => none
  | .return_ => match S, g.2.2.2.1 with
    | [], none => some (.inr (none, m))
    | _, _ => none
  | _ => none
def mSw : Instr → Bool
  | .tableswitch _ _ _ _ => true
  | .lookupswitch _ _ => true
  | _ => false
/-- many steps -/
def mRun (cal : Nat → List Value → mMem → Option mRs) (d mi b : Nat) (g : mG) : Nat → mSt → Option mRs
  | 0, _ => none
  | n + 1, (pc, L, S, m) => match decode g.2.1 pc with
    | .ok (i, len) => if len = mLen i ∨ mSw i = true then
        match mStep cal d mi b g i pc L S m with
        | some (.inl st) => mRun cal d mi b g n st
        | some (.inr r) => some r
        | none => none
      else none
    | .error _ => none
def mBase (args : List Value) : Nat := match args with
  | .ref k :: _ => k
  | _ => 0
/-- a call at depth d, each method with fuel N -/
def mCall (N : Nat) : Nat → Nat → List Value → mMem → Option mRs
  | 0 => fun _ _ _ => none
  | d + 1 => fun mi args m => match mGm[mi]? with
    | some g => if (mEa args).length ≤ g.2.2.1 then mRun (mCall N d) d mi (mBase args) g N (0, mEn args g.2.2.1, [], m) else none
    | none => none
