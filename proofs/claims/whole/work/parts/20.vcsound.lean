/-! The conditions are enough. -/
def mWk (i : Instr) : Prop := ∀ (d mi b : Nat) (g : mG) (pc : Nat) (L : mLo) (S : List Value) (m : mMem) (K : mSt → Prop) (Q : Option Value → mMem → Prop), mW d mi b g i pc L S m K Q → ∃ o, (∀ cal, mStep cal d mi b g i pc L S m = o) ∧ mH o K Q
theorem wk_iconst (n : Int) : mWk (.iconst n) := by
  intro d mi b g pc L S m K Q h
  refine ⟨mStep (fun _ _ _ => none) d mi b g (.iconst n) pc L S m, fun _ => rfl, ?_⟩
  obtain ⟨v, rfl, h⟩ := h
  exact h
theorem wk_lconst (n : Fin 2) : mWk (.lconst n) := by
  intro d mi b g pc L S m K Q h
  refine ⟨mStep (fun _ _ _ => none) d mi b g (.lconst n) pc L S m, fun _ => rfl, ?_⟩
  obtain ⟨v, rfl, h⟩ := h
  exact h
theorem wk_bipush (n : Int) : mWk (.bipush n) := by
  intro d mi b g pc L S m K Q h
  refine ⟨mStep (fun _ _ _ => none) d mi b g (.bipush n) pc L S m, fun _ => rfl, ?_⟩
  obtain ⟨v, rfl, h⟩ := h
  exact h
theorem wk_sipush (n : Int) : mWk (.sipush n) := by
  intro d mi b g pc L S m K Q h
  refine ⟨mStep (fun _ _ _ => none) d mi b g (.sipush n) pc L S m, fun _ => rfl, ?_⟩
  obtain ⟨v, rfl, h⟩ := h
  exact h
theorem wk_iload (j : Nat) : mWk (.iload j) := by
  intro d mi b g pc L S m K Q h
  refine ⟨mStep (fun _ _ _ => none) d mi b g (.iload j) pc L S m, fun _ => rfl, ?_⟩
  have h : (match mLd L j with | some v => mKind 0 v = true ∧ K (pc + 2, L, v :: S, m) | none => False) := h
  show mH (match mLd L j with | some v => if mKind 0 v then mGo (pc + 2) L (v :: S) m else none | none => none) K Q
  cases hv : mLd L j with
  | none => rw [hv] at h; exact h.elim
  | some v => rw [hv] at h; exact mH_pos h.1 h.2
theorem wk_iload_n (j : Fin 4) : mWk (.iload_n j) := by
  intro d mi b g pc L S m K Q h
  refine ⟨mStep (fun _ _ _ => none) d mi b g (.iload_n j) pc L S m, fun _ => rfl, ?_⟩
  have h : (match mLd L j with | some v => mKind 0 v = true ∧ K (pc + 1, L, v :: S, m) | none => False) := h
  show mH (match mLd L j with | some v => if mKind 0 v then mGo (pc + 1) L (v :: S) m else none | none => none) K Q
  cases hv : mLd L j with
  | none => rw [hv] at h; exact h.elim
  | some v => rw [hv] at h; exact mH_pos h.1 h.2
theorem wk_lload (j : Nat) : mWk (.lload j) := by
  intro d mi b g pc L S m K Q h
  refine ⟨mStep (fun _ _ _ => none) d mi b g (.lload j) pc L S m, fun _ => rfl, ?_⟩
  have h : (match mLd L j with | some v => mKind 1 v = true ∧ K (pc + 2, L, v :: S, m) | none => False) := h
  show mH (match mLd L j with | some v => if mKind 1 v then mGo (pc + 2) L (v :: S) m else none | none => none) K Q
  cases hv : mLd L j with
  | none => rw [hv] at h; exact h.elim
  | some v => rw [hv] at h; exact mH_pos h.1 h.2
theorem wk_lload_n (j : Fin 4) : mWk (.lload_n j) := by
  intro d mi b g pc L S m K Q h
  refine ⟨mStep (fun _ _ _ => none) d mi b g (.lload_n j) pc L S m, fun _ => rfl, ?_⟩
  have h : (match mLd L j with | some v => mKind 1 v = true ∧ K (pc + 1, L, v :: S, m) | none => False) := h
  show mH (match mLd L j with | some v => if mKind 1 v then mGo (pc + 1) L (v :: S) m else none | none => none) K Q
  cases hv : mLd L j with
  | none => rw [hv] at h; exact h.elim
  | some v => rw [hv] at h; exact mH_pos h.1 h.2
theorem wk_aload (j : Nat) : mWk (.aload j) := by
  intro d mi b g pc L S m K Q h
  refine ⟨mStep (fun _ _ _ => none) d mi b g (.aload j) pc L S m, fun _ => rfl, ?_⟩
  have h : (match mLd L j with | some v => mKind 2 v = true ∧ K (pc + 2, L, v :: S, m) | none => False) := h
  show mH (match mLd L j with | some v => if mKind 2 v then mGo (pc + 2) L (v :: S) m else none | none => none) K Q
  cases hv : mLd L j with
  | none => rw [hv] at h; exact h.elim
  | some v => rw [hv] at h; exact mH_pos h.1 h.2
theorem wk_aload_n (j : Fin 4) : mWk (.aload_n j) := by
  intro d mi b g pc L S m K Q h
  refine ⟨mStep (fun _ _ _ => none) d mi b g (.aload_n j) pc L S m, fun _ => rfl, ?_⟩
  have h : (match mLd L j with | some v => mKind 2 v = true ∧ K (pc + 1, L, v :: S, m) | none => False) := h
  show mH (match mLd L j with | some v => if mKind 2 v then mGo (pc + 1) L (v :: S) m else none | none => none) K Q
  cases hv : mLd L j with
  | none => rw [hv] at h; exact h.elim
  | some v => rw [hv] at h; exact mH_pos h.1 h.2
theorem wk_istore (j : Nat) : mWk (.istore j) := by
  intro d mi b g pc L S m K Q h
  refine ⟨mStep (fun _ _ _ => none) d mi b g (.istore j) pc L S m, fun _ => rfl, ?_⟩
  cases S with
  | nil => exact h.elim
  | cons v S => exact mH_pos ⟨h.1, h.2.1⟩ h.2.2
theorem wk_istore_n (j : Fin 4) : mWk (.istore_n j) := by
  intro d mi b g pc L S m K Q h
  refine ⟨mStep (fun _ _ _ => none) d mi b g (.istore_n j) pc L S m, fun _ => rfl, ?_⟩
  cases S with
  | nil => exact h.elim
  | cons v S => exact mH_pos ⟨h.1, h.2.1⟩ h.2.2
theorem wk_lstore (j : Nat) : mWk (.lstore j) := by
  intro d mi b g pc L S m K Q h
  refine ⟨mStep (fun _ _ _ => none) d mi b g (.lstore j) pc L S m, fun _ => rfl, ?_⟩
  cases S with
  | nil => exact h.elim
  | cons v S => exact mH_pos ⟨h.1, h.2.1⟩ h.2.2
theorem wk_lstore_n (j : Fin 4) : mWk (.lstore_n j) := by
  intro d mi b g pc L S m K Q h
  refine ⟨mStep (fun _ _ _ => none) d mi b g (.lstore_n j) pc L S m, fun _ => rfl, ?_⟩
  cases S with
  | nil => exact h.elim
  | cons v S => exact mH_pos ⟨h.1, h.2.1⟩ h.2.2
theorem wk_astore (j : Nat) : mWk (.astore j) := by
  intro d mi b g pc L S m K Q h
  refine ⟨mStep (fun _ _ _ => none) d mi b g (.astore j) pc L S m, fun _ => rfl, ?_⟩
  cases S with
  | nil => exact h.elim
  | cons v S => exact mH_pos ⟨h.1, h.2.1⟩ h.2.2
theorem wk_astore_n (j : Fin 4) : mWk (.astore_n j) := by
  intro d mi b g pc L S m K Q h
  refine ⟨mStep (fun _ _ _ => none) d mi b g (.astore_n j) pc L S m, fun _ => rfl, ?_⟩
  cases S with
  | nil => exact h.elim
  | cons v S => exact mH_pos ⟨h.1, h.2.1⟩ h.2.2
theorem wk_iinc (j : Nat) (n : Int) : mWk (.iinc j n) := by
  intro d mi b g pc L S m K Q h
  refine ⟨mStep (fun _ _ _ => none) d mi b g (.iinc j n) pc L S m, fun _ => rfl, ?_⟩
  have h : (match mLd L j with | some (.int x) => j < L.length ∧ ∃ v, x + Int32.ofInt n = v ∧ K (pc + 3, mS1 L j (.int v), S, m) | _ => False) := h
  show mH (match mLd L j with | some (.int x) => if j < L.length then mGo (pc + 3) (mS1 L j (.int (x + Int32.ofInt n))) S m else none | _ => none) K Q
  cases hv : mLd L j with
  | none => rw [hv] at h; exact h.elim
  | some v =>
    rw [hv] at h
    cases v with
    | int x =>
      obtain ⟨h1, v, rfl, h2⟩ := h
      exact mH_pos h1 h2
    | _ => exact h.elim
theorem wk_iadd : mWk (.iadd) := by
  intro d mi b g pc L S m K Q h
  refine ⟨mStep (fun _ _ _ => none) d mi b g (.iadd) pc L S m, fun _ => rfl, ?_⟩
  match S, h with
  | .int y :: .int x :: S, h => exact h
theorem wk_isub : mWk (.isub) := by
  intro d mi b g pc L S m K Q h
  refine ⟨mStep (fun _ _ _ => none) d mi b g (.isub) pc L S m, fun _ => rfl, ?_⟩
  match S, h with
  | .int y :: .int x :: S, h => exact h
theorem wk_imul : mWk (.imul) := by
  intro d mi b g pc L S m K Q h
  refine ⟨mStep (fun _ _ _ => none) d mi b g (.imul) pc L S m, fun _ => rfl, ?_⟩
  match S, h with
  | .int y :: .int x :: S, h => exact h
theorem wk_iand : mWk (.iand) := by
  intro d mi b g pc L S m K Q h
  refine ⟨mStep (fun _ _ _ => none) d mi b g (.iand) pc L S m, fun _ => rfl, ?_⟩
  match S, h with
  | .int y :: .int x :: S, h => exact h
theorem wk_ior : mWk (.ior) := by
  intro d mi b g pc L S m K Q h
  refine ⟨mStep (fun _ _ _ => none) d mi b g (.ior) pc L S m, fun _ => rfl, ?_⟩
  match S, h with
  | .int y :: .int x :: S, h => exact h
theorem wk_ixor : mWk (.ixor) := by
  intro d mi b g pc L S m K Q h
  refine ⟨mStep (fun _ _ _ => none) d mi b g (.ixor) pc L S m, fun _ => rfl, ?_⟩
  match S, h with
  | .int y :: .int x :: S, h => exact h
theorem wk_ishl : mWk (.ishl) := by
  intro d mi b g pc L S m K Q h
  refine ⟨mStep (fun _ _ _ => none) d mi b g (.ishl) pc L S m, fun _ => rfl, ?_⟩
  match S, h with
  | .int y :: .int x :: S, h => exact h
theorem wk_ishr : mWk (.ishr) := by
  intro d mi b g pc L S m K Q h
  refine ⟨mStep (fun _ _ _ => none) d mi b g (.ishr) pc L S m, fun _ => rfl, ?_⟩
  match S, h with
  | .int y :: .int x :: S, h => exact h
theorem wk_iushr : mWk (.iushr) := by
  intro d mi b g pc L S m K Q h
  refine ⟨mStep (fun _ _ _ => none) d mi b g (.iushr) pc L S m, fun _ => rfl, ?_⟩
  match S, h with
  | .int y :: .int x :: S, h => exact h
theorem wk_ladd : mWk (.ladd) := by
  intro d mi b g pc L S m K Q h
  refine ⟨mStep (fun _ _ _ => none) d mi b g (.ladd) pc L S m, fun _ => rfl, ?_⟩
  match S, h with
  | .long y :: .long x :: S, h => exact h
theorem wk_lsub : mWk (.lsub) := by
  intro d mi b g pc L S m K Q h
  refine ⟨mStep (fun _ _ _ => none) d mi b g (.lsub) pc L S m, fun _ => rfl, ?_⟩
  match S, h with
  | .long y :: .long x :: S, h => exact h
theorem wk_lmul : mWk (.lmul) := by
  intro d mi b g pc L S m K Q h
  refine ⟨mStep (fun _ _ _ => none) d mi b g (.lmul) pc L S m, fun _ => rfl, ?_⟩
  match S, h with
  | .long y :: .long x :: S, h => exact h
theorem wk_irem : mWk (.irem) := by
  intro d mi b g pc L S m K Q h
  refine ⟨mStep (fun _ _ _ => none) d mi b g (.irem) pc L S m, fun _ => rfl, ?_⟩
  match S, h with
  | .int y :: .int x :: S, h => exact mH_pos h.1 h.2
theorem wk_ldiv : mWk (.ldiv) := by
  intro d mi b g pc L S m K Q h
  refine ⟨mStep (fun _ _ _ => none) d mi b g (.ldiv) pc L S m, fun _ => rfl, ?_⟩
  match S, h with
  | .long y :: .long x :: S, h => exact mH_pos h.1 h.2
theorem wk_lrem : mWk (.lrem) := by
  intro d mi b g pc L S m K Q h
  refine ⟨mStep (fun _ _ _ => none) d mi b g (.lrem) pc L S m, fun _ => rfl, ?_⟩
  match S, h with
  | .long y :: .long x :: S, h => exact mH_pos h.1 h.2
theorem wk_lshl : mWk (.lshl) := by
  intro d mi b g pc L S m K Q h
  refine ⟨mStep (fun _ _ _ => none) d mi b g (.lshl) pc L S m, fun _ => rfl, ?_⟩
  match S, h with
  | .int y :: .long x :: S, h => exact h
theorem wk_lcmp : mWk (.lcmp) := by
  intro d mi b g pc L S m K Q h
  refine ⟨mStep (fun _ _ _ => none) d mi b g (.lcmp) pc L S m, fun _ => rfl, ?_⟩
  match S, h with
  | .long y :: .long x :: S, h => exact h
theorem wk_ineg : mWk (.ineg) := by
  intro d mi b g pc L S m K Q h
  refine ⟨mStep (fun _ _ _ => none) d mi b g (.ineg) pc L S m, fun _ => rfl, ?_⟩
  match S, h with
  | .int x :: S, h => exact h
theorem wk_lneg : mWk (.lneg) := by
  intro d mi b g pc L S m K Q h
  refine ⟨mStep (fun _ _ _ => none) d mi b g (.lneg) pc L S m, fun _ => rfl, ?_⟩
  match S, h with
  | .long x :: S, h => exact h
theorem wk_i2l : mWk (.i2l) := by
  intro d mi b g pc L S m K Q h
  refine ⟨mStep (fun _ _ _ => none) d mi b g (.i2l) pc L S m, fun _ => rfl, ?_⟩
  match S, h with
  | .int x :: S, h => exact h
theorem wk_l2i : mWk (.l2i) := by
  intro d mi b g pc L S m K Q h
  refine ⟨mStep (fun _ _ _ => none) d mi b g (.l2i) pc L S m, fun _ => rfl, ?_⟩
  match S, h with
  | .long x :: S, h => exact h
theorem wk_i2b : mWk (.i2b) := by
  intro d mi b g pc L S m K Q h
  refine ⟨mStep (fun _ _ _ => none) d mi b g (.i2b) pc L S m, fun _ => rfl, ?_⟩
  match S, h with
  | .int x :: S, h => exact h
theorem wk_i2c : mWk (.i2c) := by
  intro d mi b g pc L S m K Q h
  refine ⟨mStep (fun _ _ _ => none) d mi b g (.i2c) pc L S m, fun _ => rfl, ?_⟩
  match S, h with
  | .int x :: S, h => exact h
theorem wk_dup : mWk (.dup) := by
  intro d mi b g pc L S m K Q h
  refine ⟨mStep (fun _ _ _ => none) d mi b g (.dup) pc L S m, fun _ => rfl, ?_⟩
  match S, h with
  | v :: S, h => exact mH_pos h.1 h.2
theorem wk_pop : mWk (.pop) := by
  intro d mi b g pc L S m K Q h
  refine ⟨mStep (fun _ _ _ => none) d mi b g (.pop) pc L S m, fun _ => rfl, ?_⟩
  match S, h with
  | v :: S, h => exact mH_pos h.1 h.2
theorem wk_dup2 : mWk (.dup2) := by
  intro d mi b g pc L S m K Q h
  refine ⟨mStep (fun _ _ _ => none) d mi b g (.dup2) pc L S m, fun _ => rfl, ?_⟩
  match S, h with
  | v :: u :: S, h => exact mH_pos h.1 h.2
theorem wk_goto (off : Int) : mWk (.goto off) := by
  intro d mi b g pc L S m K Q h
  refine ⟨mStep (fun _ _ _ => none) d mi b g (.goto off) pc L S m, fun _ => rfl, ?_⟩
  obtain ⟨t, rfl, h1, h⟩ := h
  exact mH_pos h1 h
theorem wk_if_icmp (c : ClassFile.Cond) (off : Int) : mWk (.if_icmp c off) := by
  intro d mi b g pc L S m K Q h
  refine ⟨mStep (fun _ _ _ => none) d mi b g (.if_icmp c off) pc L S m, fun _ => rfl, ?_⟩
  match S, h with
  | .int y :: .int x :: S, h =>
    obtain ⟨t, rfl, h1, h2, h3⟩ := h
    refine mH_pos h1 ?_
    by_cases hc : mCmp c x y = true
    · rw [if_pos hc]; exact h2 ((mCP_iff c x y).mp hc)
    · rw [if_neg hc]; exact h3 (fun q => hc ((mCP_iff c x y).mpr q))
theorem wk_ifCond (c : ClassFile.Cond) (off : Int) : mWk (.ifCond c off) := by
  intro d mi b g pc L S m K Q h
  refine ⟨mStep (fun _ _ _ => none) d mi b g (.ifCond c off) pc L S m, fun _ => rfl, ?_⟩
  match S, h with
  | .int x :: S, h =>
    obtain ⟨t, rfl, h1, h2, h3⟩ := h
    refine mH_pos h1 ?_
    by_cases hc : mCmp c x 0 = true
    · rw [if_pos hc]; exact h2 ((mCP_iff c x 0).mp hc)
    · rw [if_neg hc]; exact h3 (fun q => hc ((mCP_iff c x 0).mpr q))
theorem wk_ifnull (off : Int) : mWk (.ifnull off) := by
  intro d mi b g pc L S m K Q h
  refine ⟨mStep (fun _ _ _ => none) d mi b g (.ifnull off) pc L S m, fun _ => rfl, ?_⟩
  match S, h with
  | .null :: S, h => obtain ⟨t, rfl, h1, h⟩ := h; exact mH_pos h1 h
  | .ref k :: S, h => exact h
theorem wk_ifnonnull (off : Int) : mWk (.ifnonnull off) := by
  intro d mi b g pc L S m K Q h
  refine ⟨mStep (fun _ _ _ => none) d mi b g (.ifnonnull off) pc L S m, fun _ => rfl, ?_⟩
  match S, h with
  | .null :: S, h => exact h
  | .ref k :: S, h => obtain ⟨t, rfl, h1, h⟩ := h; exact mH_pos h1 h
theorem wk_tableswitch (df lo hi : Int) (offs : Array Int) : mWk (.tableswitch df lo hi offs) := by
  intro d mi b g pc L S m K Q h
  refine ⟨mStep (fun _ _ _ => none) d mi b g (.tableswitch df lo hi offs) pc L S m, fun _ => rfl, ?_⟩
  match S, h with
  | .int x :: S, h =>
    obtain ⟨off, h0, h1, h⟩ := h
    show mH (mSwt pc (if x.toInt < lo ∨ hi < x.toInt then some df else offs[(x.toInt - lo).toNat]?) L S m) K Q
    rw [h0]
    exact mH_pos h1 h
theorem wk_lookupswitch (df : Int) (ps : Array (Int × Int)) : mWk (.lookupswitch df ps) := by
  intro d mi b g pc L S m K Q h
  refine ⟨mStep (fun _ _ _ => none) d mi b g (.lookupswitch df ps) pc L S m, fun _ => rfl, ?_⟩
  match S, h with
  | .int x :: S, h =>
    obtain ⟨h0, off, rfl, h1, h⟩ := h
    exact mH_pos h0 (mH_pos h1 h)
theorem wk_ldc (j : Nat) : mWk (.ldc j) := by
  intro d mi b g pc L S m K Q h
  refine ⟨mStep (fun _ _ _ => none) d mi b g (.ldc j) pc L S m, fun _ => rfl, ?_⟩
  obtain ⟨v, p, h0, h⟩ := h
  show mH (match (mLI g.2.2.2.2.1).lookup j with | some (v, _) => mGo (pc + 2) L (.int v :: S) m | none => none) K Q
  rw [h0]
  exact h
theorem wk_ldc_w (j : Nat) : mWk (.ldc_w j) := by
  intro d mi b g pc L S m K Q h
  refine ⟨mStep (fun _ _ _ => none) d mi b g (.ldc_w j) pc L S m, fun _ => rfl, ?_⟩
  obtain ⟨v, p, h0, h⟩ := h
  show mH (match (mLI g.2.2.2.2.1).lookup j with | some (v, _) => mGo (pc + 3) L (.int v :: S) m | none => none) K Q
  rw [h0]
  exact h
theorem wk_ldc2_w (j : Nat) : mWk (.ldc2_w j) := by
  intro d mi b g pc L S m K Q h
  refine ⟨mStep (fun _ _ _ => none) d mi b g (.ldc2_w j) pc L S m, fun _ => rfl, ?_⟩
  obtain ⟨v, p, h0, h⟩ := h
  show mH (match (mLJ g.2.2.2.2.1).lookup j with | some (v, _) => mGo (pc + 3) L (.long v :: S) m | none => none) K Q
  rw [h0]
  exact h
theorem wk_getfield (j : Nat) : mWk (.getfield j) := by
  intro d mi b g pc L S m K Q h
  refine ⟨mStep (fun _ _ _ => none) d mi b g (.getfield j) pc L S m, fun _ => rfl, ?_⟩
  match S, h with
  | .ref k :: S, h =>
    obtain ⟨ci, f, p, h0, h1, v, rfl, h⟩ := h
    show mH (match (mLF g.2.2.2.2.1).lookup j, (Value.ref k :: S) with | some (ci, f, _), .ref k :: S => if m.1 k = some (.inr ci) ∧ k ≠ 0 then mGo (pc + 3) L (m.2.1 k f :: S) m else none | _, _ => none) K Q
    rw [h0]
    exact mH_pos h1 h
theorem wk_putfield (j : Nat) : mWk (.putfield j) := by
  intro d mi b g pc L S m K Q h
  refine ⟨mStep (fun _ _ _ => none) d mi b g (.putfield j) pc L S m, fun _ => rfl, ?_⟩
  match S, h with
  | v :: .ref k :: S, h =>
    obtain ⟨ci, f, p, h0, h1, h⟩ := h
    show mH (match (mLF g.2.2.2.2.1).lookup j, (v :: Value.ref k :: S) with | some (ci, f, _), v :: .ref k :: S => if m.1 k = some (.inr ci) ∧ k ≠ 0 ∧ narrow (mTy ci f) v = v ∧ fits (mTy ci f) v = true ∧ (((mCl[ci]?).map (fun q => (q.2.1 f).2.2.2)) = some true → g.2.2.2.2.2.2.2 = true ∧ g.2.2.2.2.2.2.1 = ci) then mGo (pc + 3) L S (mSetF m k f v) else none | _, _ => none) K Q
    rw [h0]
    exact mH_pos h1 h
theorem wk_iaload : mWk (.iaload) := by
  intro d mi b g pc L S m K Q h
  refine ⟨mStep (fun _ _ _ => none) d mi b g (.iaload) pc L S m, fun _ => rfl, ?_⟩
  match S, h with
  | .int j :: .ref k :: S, h =>
    obtain ⟨ty, n, h0, h1, v, rfl, h⟩ := h
    show mH (match m.1 k with | some (.inl (ty, n)) => if mArT .iaload ty && mIn j n && (k != 0 || mi == 0) then mGo (pc + 1) L (.int (m.2.2.1 k j.toNatClampNeg) :: S) m else none | _ => none) K Q
    rw [h0]
    exact mH_pos h1 h
theorem wk_baload : mWk (.baload) := by
  intro d mi b g pc L S m K Q h
  refine ⟨mStep (fun _ _ _ => none) d mi b g (.baload) pc L S m, fun _ => rfl, ?_⟩
  match S, h with
  | .int j :: .ref k :: S, h =>
    obtain ⟨ty, n, h0, h1, v, rfl, h⟩ := h
    show mH (match m.1 k with | some (.inl (ty, n)) => if mArT .baload ty && mIn j n && (k != 0 || mi == 0) then mGo (pc + 1) L (.int (m.2.2.1 k j.toNatClampNeg) :: S) m else none | _ => none) K Q
    rw [h0]
    exact mH_pos h1 h
theorem wk_caload : mWk (.caload) := by
  intro d mi b g pc L S m K Q h
  refine ⟨mStep (fun _ _ _ => none) d mi b g (.caload) pc L S m, fun _ => rfl, ?_⟩
  match S, h with
  | .int j :: .ref k :: S, h =>
    obtain ⟨ty, n, h0, h1, v, rfl, h⟩ := h
    show mH (match m.1 k with | some (.inl (ty, n)) => if mArT .caload ty && mIn j n && (k != 0 || mi == 0) then mGo (pc + 1) L (.int (m.2.2.1 k j.toNatClampNeg) :: S) m else none | _ => none) K Q
    rw [h0]
    exact mH_pos h1 h
theorem wk_laload : mWk (.laload) := by
  intro d mi b g pc L S m K Q h
  refine ⟨mStep (fun _ _ _ => none) d mi b g (.laload) pc L S m, fun _ => rfl, ?_⟩
  match S, h with
  | .int j :: .ref k :: S, h =>
    obtain ⟨n, h0, h1, v, rfl, h⟩ := h
    show mH (match m.1 k with | some (.inl (.long, n)) => if mIn j n && k != 0 then mGo (pc + 1) L (.long (m.2.2.2.1 k j.toNatClampNeg) :: S) m else none | _ => none) K Q
    rw [h0]
    exact mH_pos h1 h
theorem wk_iastore : mWk (.iastore) := by
  intro d mi b g pc L S m K Q h
  refine ⟨mStep (fun _ _ _ => none) d mi b g (.iastore) pc L S m, fun _ => rfl, ?_⟩
  match S, h with
  | .int x :: .int j :: .ref k :: S, h =>
    obtain ⟨ty, n, h0, h1, v, rfl, h⟩ := h
    show mH (match m.1 k with | some (.inl (ty, n)) => if mArT .iastore ty && mIn j n && k != 0 then mGo (pc + 1) L S (mSetI m k (upd (m.2.2.1 k) j.toNatClampNeg (vp_nar ty x))) else none | _ => none) K Q
    rw [h0]
    exact mH_pos h1 h
theorem wk_bastore : mWk (.bastore) := by
  intro d mi b g pc L S m K Q h
  refine ⟨mStep (fun _ _ _ => none) d mi b g (.bastore) pc L S m, fun _ => rfl, ?_⟩
  match S, h with
  | .int x :: .int j :: .ref k :: S, h =>
    obtain ⟨ty, n, h0, h1, v, rfl, h⟩ := h
    show mH (match m.1 k with | some (.inl (ty, n)) => if mArT .bastore ty && mIn j n && k != 0 then mGo (pc + 1) L S (mSetI m k (upd (m.2.2.1 k) j.toNatClampNeg (vp_nar ty x))) else none | _ => none) K Q
    rw [h0]
    exact mH_pos h1 h
theorem wk_castore : mWk (.castore) := by
  intro d mi b g pc L S m K Q h
  refine ⟨mStep (fun _ _ _ => none) d mi b g (.castore) pc L S m, fun _ => rfl, ?_⟩
  match S, h with
  | .int x :: .int j :: .ref k :: S, h =>
    obtain ⟨ty, n, h0, h1, v, rfl, h⟩ := h
    show mH (match m.1 k with | some (.inl (ty, n)) => if mArT .castore ty && mIn j n && k != 0 then mGo (pc + 1) L S (mSetI m k (upd (m.2.2.1 k) j.toNatClampNeg (vp_nar ty x))) else none | _ => none) K Q
    rw [h0]
    exact mH_pos h1 h
theorem wk_lastore : mWk (.lastore) := by
  intro d mi b g pc L S m K Q h
  refine ⟨mStep (fun _ _ _ => none) d mi b g (.lastore) pc L S m, fun _ => rfl, ?_⟩
  match S, h with
  | .long x :: .int j :: .ref k :: S, h =>
    obtain ⟨n, h0, h1, h⟩ := h
    show mH (match m.1 k with | some (.inl (.long, n)) => if mIn j n && k != 0 then mGo (pc + 1) L S (mSetJ m k (vp_updL (m.2.2.2.1 k) j.toNatClampNeg x)) else none | _ => none) K Q
    rw [h0]
    exact mH_pos h1 h
theorem wk_arraylength : mWk (.arraylength) := by
  intro d mi b g pc L S m K Q h
  refine ⟨mStep (fun _ _ _ => none) d mi b g (.arraylength) pc L S m, fun _ => rfl, ?_⟩
  match S, h with
  | .ref k :: S, h =>
    obtain ⟨ty, n, h0, h1, h⟩ := h
    show mH (match m.1 k with | some (.inl (_, n)) => if k != 0 || mi == 0 then mGo (pc + 1) L (.int (Int32.ofNat n) :: S) m else none | _ => none) K Q
    rw [h0]
    exact mH_pos h1 h
theorem wk_new (j : Nat) : mWk (.new j) := by
  intro d mi b g pc L S m K Q h
  refine ⟨mStep (fun _ _ _ => none) d mi b g (.new j) pc L S m, fun _ => rfl, ?_⟩
  obtain ⟨ci, p, st, k, h0, h1, rfl, h2, h⟩ := h
  show mH (match (mLC g.2.2.2.2.1).lookup j, (mLN mi).lookup pc with | some (ci, _), some st => if m.1 (64 * b + st) = none ∧ 64 * b + st ≠ 0 then mGo (pc + 3) L (.ref (64 * b + st) :: S) (mNewO m (64 * b + st) ci) else none | _, _ => none) K Q
  rw [h0, h1]
  exact mH_pos h2 h
theorem wk_newarray (a : ArrayType) : mWk (.newarray a) := by
  intro d mi b g pc L S m K Q h
  refine ⟨mStep (fun _ _ _ => none) d mi b g (.newarray a) pc L S m, fun _ => rfl, ?_⟩
  match S, h with
  | .int n :: S, h =>
    obtain ⟨st, k, N, h1, rfl, rfl, h2, h⟩ := h
    show mH (match (Value.int n :: S), (mLN mi).lookup pc with | .int n :: S, some st => if m.1 (64 * b + st) = none ∧ 64 * b + st ≠ 0 ∧ ¬ n < 0 ∧ n.toNatClampNeg ≤ 60000 ∧ mArP (newarray.typeOf a) ≠ 0 then mGo (pc + 2) L (.ref (64 * b + st) :: S) (mNewA m (64 * b + st) (newarray.typeOf a) n.toNatClampNeg) else none | _, _ => none) K Q
    rw [h1]
    exact mH_pos h2 h
theorem wk_ireturn : mWk (.ireturn) := by
  intro d mi b g pc L S m K Q h
  refine ⟨mStep (fun _ _ _ => none) d mi b g (.ireturn) pc L S m, fun _ => rfl, ?_⟩
  match S, h with
  | [.int v], h =>
    have h : (match [Value.int v], g.2.2.2.1 with | [.int v], some ty => (narrow ty (.int v) = .int v ∧ ty ≠ .long) ∧ Q (some (.int v)) m | _, _ => False) := h
    show mH (match [Value.int v], g.2.2.2.1 with | [.int v], some ty => if narrow ty (.int v) = .int v ∧ ty ≠ .long then some (.inr (some (.int v), m)) else none | _, _ => none) K Q
    cases hr : g.2.2.2.1 with
    | none => rw [hr] at h; exact h.elim
    | some ty => rw [hr] at h; exact mH_pos h.1 h.2
theorem wk_return : mWk (.return_) := by
  intro d mi b g pc L S m K Q h
  refine ⟨mStep (fun _ _ _ => none) d mi b g (.return_) pc L S m, fun _ => rfl, ?_⟩
  match S, h with
  | [], h =>
    have h : (match ([] : List Value), g.2.2.2.1 with | [], none => Q none m | _, _ => False) := h
    show mH (match ([] : List Value), g.2.2.2.1 with | [], none => some (.inr (none, m)) | _, _ => none) K Q
    cases hr : g.2.2.2.1 with
    | none => rw [hr] at h; exact h
    | some ty => rw [hr] at h; exact h.elim
theorem wk_lreturn : mWk (.lreturn) := by
  intro d mi b g pc L S m K Q h
  refine ⟨mStep (fun _ _ _ => none) d mi b g (.lreturn) pc L S m, fun _ => rfl, ?_⟩
  match S, h with
  | [.long v], h =>
    have h : (match [Value.long v], g.2.2.2.1 with | [.long v], some .long => Q (some (.long v)) m | _, _ => False) := h
    show mH (match [Value.long v], g.2.2.2.1 with | [.long v], some .long => some (.inr (some (.long v), m)) | _, _ => none) K Q
    cases hr : g.2.2.2.1 with
    | none => rw [hr] at h; exact h.elim
    | some ty => cases ty <;> (rw [hr] at h; first | exact h | exact h.elim)
theorem wk_areturn : mWk (.areturn) := by
  intro d mi b g pc L S m K Q h
  refine ⟨mStep (fun _ _ _ => none) d mi b g (.areturn) pc L S m, fun _ => rfl, ?_⟩
  match S, h with
  | [.ref v], h =>
    have h : (match [Value.ref v], g.2.2.2.1 with | [.ref v], some (.object _) => Q (some (.ref v)) m | _, _ => False) := h
    show mH (match [Value.ref v], g.2.2.2.1 with | [.ref v], some (.object _) => some (.inr (some (.ref v), m)) | _, _ => none) K Q
    cases hr : g.2.2.2.1 with
    | none => rw [hr] at h; exact h.elim
    | some ty => cases ty <;> (rw [hr] at h; first | exact h | exact h.elim)
theorem wk_invokespecial (j : Nat) : mWk (.invokespecial j) := by
  intro d mi b g pc L S m K Q h
  match S, h with
  | .ref k :: S, h =>
    obtain ⟨p, h0, h1, h⟩ := h
    refine ⟨mGo (pc + 3) L S m, fun cal => ?_, h⟩
    show (match (mLM g.2.2.2.2.1).lookup j with | some (cm, _, _) => mInv cal d 1 cm pc L (.ref k :: S) m | none => none) = _
    rw [h0]
    show mInv cal d 1 901 pc L (.ref k :: S) m = _
    unfold mInv
    rw [if_pos rfl]
    dsimp only
    rw [if_pos ⟨rfl, h1⟩]
theorem wk_invokestatic (j : Nat) : mWk (.invokestatic j) := by
  intro d mi b g pc L S m K Q h
  obtain ⟨cm, p, h0, h⟩ := h
  have go : ∀ o, (∀ cal, mInv cal d 2 cm pc L S m = o) → mH o K Q → ∃ o, (∀ cal, mStep cal d mi b g (.invokestatic j) pc L S m = o) ∧ mH o K Q := by
    intro o ho hh
    refine ⟨o, fun cal => ?_, hh⟩
    show (match (mLM g.2.2.2.2.1).lookup j with | some (cm, _, 0) => mInv cal d 2 cm pc L S m | _ => none) = _
    rw [h0]
    exact ho cal
  split at h
  · rename_i n dp k1 sp k0 S
    obtain ⟨n0, n1, h1, h2, h3, h⟩ := h
    refine go (mGo (pc + 3) L S (mSetI m k1 (va_cpy (m.2.2.1 k0) (m.2.2.1 k1) sp.toNatClampNeg dp.toNatClampNeg n.toNatClampNeg))) (fun cal => ?_) h
    unfold mInv
    rw [if_neg (by decide), if_pos rfl, if_pos rfl]
    unfold mCpy
    dsimp only
    rw [h1, h2]
    exact if_pos h3
  · rename_i y x S
    refine go (mGo (pc + 3) L (.int (if x < y then y else x) :: S) m) (fun cal => ?_) h.2
    unfold mInv
    rw [if_neg (by decide), if_neg (by decide), if_pos rfl]
    exact if_pos ⟨rfl, h.1⟩
  · rename_i y x S
    refine go (mGo (pc + 3) L (.long (if y < x then y else x) :: S) m) (fun cal => ?_) h.2
    unfold mInv
    rw [if_neg (by decide), if_neg (by decide), if_neg (by decide), if_pos rfl]
    exact if_pos ⟨rfl, h.1⟩
  · rename_i x S
    refine go (mGo (pc + 3) L (.long (if 0 < x then x else -x) :: S) m) (fun cal => ?_) h.2
    unfold mInv
    rw [if_neg (by decide), if_neg (by decide), if_neg (by decide), if_neg (by decide), if_pos rfl]
    exact if_pos ⟨rfl, h.1⟩
  · exact h.elim
theorem wk_all (i : Instr) : mWk i := by
  cases i <;> first
    | exact fun d mi b g pc L S m K Q h => h.elim
    | exact wk_iconst _ | exact wk_lconst _ | exact wk_bipush _ | exact wk_sipush _
    | exact wk_iload _ | exact wk_iload_n _ | exact wk_lload _ | exact wk_lload_n _ | exact wk_aload _ | exact wk_aload_n _
    | exact wk_istore _ | exact wk_istore_n _ | exact wk_lstore _ | exact wk_lstore_n _ | exact wk_astore _ | exact wk_astore_n _ | exact wk_iinc _ _
    | exact wk_iadd | exact wk_isub | exact wk_imul | exact wk_iand | exact wk_ior | exact wk_ixor | exact wk_ishl | exact wk_ishr | exact wk_iushr
    | exact wk_ladd | exact wk_lsub | exact wk_lmul | exact wk_irem | exact wk_ldiv | exact wk_lrem | exact wk_lshl | exact wk_lcmp
    | exact wk_ineg | exact wk_lneg | exact wk_i2l | exact wk_l2i | exact wk_i2b | exact wk_i2c | exact wk_dup | exact wk_dup2 | exact wk_pop
    | exact wk_goto _ | exact wk_if_icmp _ _ | exact wk_ifCond _ _ | exact wk_ifnull _ | exact wk_ifnonnull _ | exact wk_tableswitch _ _ _ _ | exact wk_lookupswitch _ _
    | exact wk_ldc _ | exact wk_ldc_w _ | exact wk_ldc2_w _ | exact wk_getfield _ | exact wk_putfield _
    | exact wk_iaload | exact wk_baload | exact wk_caload | exact wk_laload | exact wk_iastore | exact wk_bastore | exact wk_castore | exact wk_lastore
    | exact wk_arraylength | exact wk_new _ | exact wk_newarray _ | exact wk_ireturn | exact wk_lreturn | exact wk_areturn | exact wk_return
    | exact wk_invokespecial _ | exact wk_invokestatic _
