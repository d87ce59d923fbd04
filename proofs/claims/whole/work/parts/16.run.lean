/-! Runs: the mini machine's run is the machine's; each run is a contract. -/
theorem mSoX_no {i : Instr} (h : ∀ cal d mi b g pc L S m st, mStep cal d mi b g i pc L S m ≠ some (.inl st)) : mSoX i := by
  intro p l e R s m args below meth c H locs Q c0 s0 D cT A g d m0 mm φ0 φ L S ls pc cal mi b pc' L' S' mm' len hcal hst
  exact absurd hst (h _ _ _ _ _ _ _ _ _ _)
theorem mNoSome {α : Type} {x : α} (h : none = some x) : False := by cases h
theorem so_ireturn : mSoX .ireturn := mSoX_no (fun cal d mi b g pc L S m st h => by
  unfold mStep at h
  dsimp only at h
  split at h
  · split at h <;> cases h
  · cases h)
theorem so_lreturn : mSoX .lreturn := mSoX_no (fun cal d mi b g pc L S m st h => by
  unfold mStep at h
  dsimp only at h
  split at h <;> cases h)
theorem so_areturn : mSoX .areturn := mSoX_no (fun cal d mi b g pc L S m st h => by
  unfold mStep at h
  dsimp only at h
  split at h <;> cases h)
theorem so_return : mSoX .return_ := mSoX_no (fun cal d mi b g pc L S m st h => by
  unfold mStep at h
  dsimp only at h
  split at h <;> cases h)
theorem so_all (i : Instr) : mSoX i := by
  by_cases hp : mPure i = true
  · exact mSoX_M (mSoM_pure (so_pure i hp))
  · cases i <;> first
      | exact absurd rfl hp
      | exact mSoX_M (so_getfield _) | exact mSoX_M (so_putfield _) | exact mSoX_M so_iaload | exact mSoX_M so_baload | exact mSoX_M so_caload | exact mSoX_M so_laload
      | exact mSoX_M so_iastore | exact mSoX_M so_bastore | exact mSoX_M so_castore | exact mSoX_M so_lastore | exact mSoX_M so_arraylength | exact mSoX_M (so_new _) | exact mSoX_M (so_newarray _)
      | exact so_invokevirtual _ | exact so_invokespecial _ | exact so_invokestatic _ | exact so_ireturn | exact so_lreturn | exact so_areturn | exact so_return
      | exact mSoX_no (fun cal d mi b g pc L S m st h => mNoSome (show none = some _ from h))
-- cells and slots only grow
def mMon (m : mMem) (o : Option (mSt ⊕ mRs)) : Prop := ∀ st : mSt, o = some (.inl st) → m.2.2.2.2.1 ≤ st.2.2.2.2.2.2.2.1 ∧ m.2.2.2.2.2 ≤ st.2.2.2.2.2.2.2.2
theorem mMon_none {m : mMem} : mMon m none := fun _ h => by cases h
theorem mMon_inr {m : mMem} {r : mRs} : mMon m (some (.inr r)) := fun _ h => by cases h
theorem mMon_go {pc : Nat} {L : mLo} {S : List Value} {m m1 : mMem} (h1 : m.2.2.2.2.1 ≤ m1.2.2.2.2.1) (h2 : m.2.2.2.2.2 ≤ m1.2.2.2.2.2) : mMon m (mGo pc L S m1) := fun st h => by
  unfold mGo at h
  cases h
  exact ⟨h1, h2⟩
theorem mMon_same {pc : Nat} {L : mLo} {S : List Value} {m : mMem} : mMon m (mGo pc L S m) := mMon_go (Nat.le_refl _) (Nat.le_refl _)
theorem mMon_swt {pc : Nat} {off : Option Int} {L : mLo} {S : List Value} {m : mMem} : mMon m (mSwt pc off L S m) := by
  unfold mSwt
  repeat' first | exact mMon_none | exact mMon_same | split
theorem mMon_inv {cal : Nat → List Value → mMem → Option mRs} (hcal : ∀ cm as mm r m1, cal cm as mm = some (r, m1) → mm.2.2.2.2.1 ≤ m1.2.2.2.2.1 ∧ mm.2.2.2.2.2 ≤ m1.2.2.2.2.2) {d kind cm pc : Nat} {L : mLo} {S : List Value} {m : mMem} : mMon m (mInv cal d kind cm pc L S m) := by
  unfold mInv mCpy
  repeat' first | exact mMon_none | exact mMon_same | exact mMon_go (Nat.le_refl _) (Nat.le_refl _) | (dsimp only; split) | split
  all_goals (rename_i h; exact mMon_go (hcal _ _ _ _ _ h).1 (hcal _ _ _ _ _ h).2)
set_option maxHeartbeats 1000000 in
theorem mMon_step {cal : Nat → List Value → mMem → Option mRs} (hcal : ∀ cm as mm r m1, cal cm as mm = some (r, m1) → mm.2.2.2.2.1 ≤ m1.2.2.2.2.1 ∧ mm.2.2.2.2.2 ≤ m1.2.2.2.2.2) {d mi b pc : Nat} {g : mG} {i : Instr} {L : mLo} {S : List Value} {m : mMem} : mMon m (mStep cal d mi b g i pc L S m) := by
  cases i <;> first
    | exact mMon_none
    | (unfold mStep; dsimp only [mLoad, mStore]; repeat' first | exact mMon_none | exact mMon_inr | exact mMon_same | exact mMon_swt | exact mMon_inv hcal | exact mMon_go (Nat.le_refl _) (Nat.le_refl _) | exact mMon_go (Nat.le_succ _) (Nat.le_add_right _ _) | split)
-- what is answered leaves the memory
def mRt (m : mMem) (o : Option (mSt ⊕ mRs)) : Prop := ∀ r : mRs, o = some (.inr r) → r.2 = m
theorem mRt_none {m : mMem} : mRt m none := fun _ h => by cases h
theorem mRt_inr {m : mMem} {v : Option Value} : mRt m (some (.inr (v, m))) := fun _ h => by cases h; rfl
theorem mRt_go {pc : Nat} {L : mLo} {S : List Value} {m m1 : mMem} : mRt m (mGo pc L S m1) := fun st h => by unfold mGo at h; cases h
theorem mRt_swt {pc : Nat} {off : Option Int} {L : mLo} {S : List Value} {m : mMem} : mRt m (mSwt pc off L S m) := by
  unfold mSwt
  repeat' first | exact mRt_none | exact mRt_go | split
theorem mRt_inv {cal : Nat → List Value → mMem → Option mRs} {d kind cm pc : Nat} {L : mLo} {S : List Value} {m : mMem} : mRt m (mInv cal d kind cm pc L S m) := by
  unfold mInv mCpy
  repeat' first | exact mRt_none | exact mRt_go | (dsimp only; split) | split
set_option maxHeartbeats 1000000 in
theorem mRt_step {cal : Nat → List Value → mMem → Option mRs} {d mi b pc : Nat} {g : mG} {i : Instr} {L : mLo} {S : List Value} {m : mMem} : mRt m (mStep cal d mi b g i pc L S m) := by
  cases i <;> first
    | exact mRt_none
    | (unfold mStep; dsimp only [mLoad, mStore]; repeat' first | exact mRt_none | exact mRt_inr | exact mRt_go | exact mRt_swt | exact mRt_inv | split)
theorem mRun_mono {cal : Nat → List Value → mMem → Option mRs} (hcal : ∀ cm as mm r m1, cal cm as mm = some (r, m1) → mm.2.2.2.2.1 ≤ m1.2.2.2.2.1 ∧ mm.2.2.2.2.2 ≤ m1.2.2.2.2.2) {d mi b : Nat} {g : mG} : ∀ (n pc : Nat) (L : mLo) (S : List Value) (mm : mMem) (r : Option Value) (mf : mMem), mRun cal d mi b g n (pc, L, S, mm) = some (r, mf) → mm.2.2.2.2.1 ≤ mf.2.2.2.2.1 ∧ mm.2.2.2.2.2 ≤ mf.2.2.2.2.2 := by
  intro n
  induction n with
  | zero => intro pc L S mm r mf h; cases h
  | succ n ih =>
    intro pc L S mm r mf h
    unfold mRun at h
    split at h
    · split at h
      · split at h
        · rename_i st hst
          obtain ⟨pc', L', S', mm'⟩ := st
          have h1 := mMon_step hcal _ hst
          have h2 := ih pc' L' S' mm' r mf h
          exact ⟨Nat.le_trans h1.1 h2.1, Nat.le_trans h1.2 h2.2⟩
        · rename_i r' hst
          cases h
          have h1 := mRt_step _ hst
          dsimp only at h1
          subst h1
          exact ⟨Nat.le_refl _, Nat.le_refl _⟩
        · cases h
      · cases h
    · cases h
