/-! Runs up to a place; PlaceNets.arc where it throws. -/
def mRunT (cal : Nat → List Value → mMem → Option mRs) (d mi b : Nat) (g : mG) (stop : Nat) : Nat → mSt → Option mSt
  | 0, _ => none
  | n + 1, (pc, L, S, m) => if pc = stop then some (pc, L, S, m) else match decode g.2.1 pc with
    | .ok (i, len) => if len = mLen i ∨ mSw i = true then
        match mStep cal d mi b g i pc L S m with
        | some (.inl st) => mRunT cal d mi b g stop n st
        | _ => none
      else none
    | .error _ => none
theorem mRunT_mono {cal : Nat → List Value → mMem → Option mRs} (hcal : ∀ cm as mm r m1, cal cm as mm = some (r, m1) → mm.2.2.2.2.1 ≤ m1.2.2.2.2.1 ∧ mm.2.2.2.2.2 ≤ m1.2.2.2.2.2) {d mi b stop : Nat} {g : mG} {pc' : Nat} {L' : mLo} {S' : List Value} {mf : mMem} : ∀ (n pc : Nat) (L : mLo) (S : List Value) (mm : mMem), mRunT cal d mi b g stop n (pc, L, S, mm) = some (pc', L', S', mf) → mm.2.2.2.2.1 ≤ mf.2.2.2.2.1 ∧ mm.2.2.2.2.2 ≤ mf.2.2.2.2.2 := by
  intro n
  induction n with
  | zero => intro pc L S mm h; cases h
  | succ n ih =>
    intro pc L S mm h
    unfold mRunT at h
    split at h
    · cases h
      exact ⟨Nat.le_refl _, Nat.le_refl _⟩
    · split at h
      · split at h
        · split at h
          · rename_i st hst
            obtain ⟨pc2, L2, S2, m2⟩ := st
            have h1 := mMon_step hcal _ hst
            have h2 := ih pc2 L2 S2 m2 h
            exact ⟨Nat.le_trans h1.1 h2.1, Nat.le_trans h1.2 h2.2⟩
          · cases h
        · cases h
      · cases h
theorem mRunTS {p : Program} {l : Launch} {e : Env} {R : Room} {s : State} {m : MethodId} {args : Array Value} {below : List Frame} {meth : Method} {c : Code} {Q : State → Prop} {c0 s0 : Nat} {D : va_G} {cT : FieldType → ClassId} {A : Nat → Prop} {g : mG} {d mi b stop : Nat} {m0 : mMem} {φ0 : Nat → Nat} {cal : Nat → List Value → mMem → Option mRs}
    (hcal : mCalOk l D cT d cal) (hmon : ∀ cm as mm r m1, cal cm as mm = some (r, m1) → mm.2.2.2.2.1 ≤ m1.2.2.2.2.1 ∧ mm.2.2.2.2.2 ≤ m1.2.2.2.2.2) (C : mCx p s m args meth c R D cT A g d) (hsc : mi = 0 → mScr s A m0 φ0) {pc' : Nat} {L' : mLo} {S' : List Value} {mf : mMem} (hRc : mf.2.2.2.2.1 - c0 ≤ R.cells) (hRs : mf.2.2.2.2.2 - s0 ≤ R.slots)
    (kk : ∀ (φ : Nat → Nat) (H : Heap) (locs : List Loc) (ls : Array Slot), mRl D cT A s.heap m0 φ0 φ mf H locs → mFr φ mf L' S' ls g.2.2.1 → W p l e R s m args below meth c H locs (mf.2.2.2.2.1 - c0) (mf.2.2.2.2.2 - s0) Q (F0 m pc' ls (S'.map (mCv φ)))) :
    ∀ (n pc : Nat) (L : mLo) (S : List Value) (mm : mMem) (φ : Nat → Nat) (H : Heap) (locs : List Loc) (ls : Array Slot), mRunT cal d mi b g stop n (pc, L, S, mm) = some (pc', L', S', mf) → mRl D cT A s.heap m0 φ0 φ mm H locs → mFr φ mm L S ls g.2.2.1 → c0 ≤ mm.2.2.2.2.1 → s0 ≤ mm.2.2.2.2.2 → W p l e R s m args below meth c H locs (mm.2.2.2.2.1 - c0) (mm.2.2.2.2.2 - s0) Q (F0 m pc ls (S.map (mCv φ))) := by
  intro n
  induction n with
  | zero => intro pc L S mm φ H locs ls h; cases h
  | succ n ih =>
    intro pc L S mm φ H locs ls h hR hF hc0 hs0
    unfold mRunT at h
    split at h
    · cases h
      exact kk φ H locs ls hR hF
    · split at h
      · rename_i i len hdg
        split at h
        · rename_i hlen
          split at h
          · rename_i st hst
            obtain ⟨pc2, L2, S2, m2⟩ := st
            have h1 := mMon_step hmon _ hst
            have h2 := mRunT_mono hmon n pc2 L2 S2 m2 h
            dsimp only at h1
            exact so_all i p l e R s m args below meth c H locs Q c0 s0 D cT A g d m0 mm φ0 φ L S ls pc cal mi b pc2 L2 S2 m2 len hcal hst C hsc hdg hlen hR hF hc0 hs0 (by omega) (by omega) (fun φ' H' locs' ls' hR' hF' => ih pc2 L2 S2 m2 φ' H' locs' ls' h hR' hF' (by omega) (by omega))
          · cases h
        · cases h
      · cases h
-- the words of throwing that calls don't carry by themselves
def mXw : List Cond := lw_tbl.filter (fun w => match w with | .declares _ => true | .castable _ _ => true | _ => false)
def xNS : String := "java/util/NoSuchElementException"
def xNm : List String := ["java/lang/RuntimeException", "java/lang/Exception"]
def mXs (A : Nat → Prop) (U : State) : Prop := vx_Zq Bundle.tN "UNASSIGNED_STACK" Bundle.steD A U U.heap ∧ vx_Zq Bundle.tN "SUPPRESSED_SENTINEL" Bundle.listD A U U.heap ∧ ∀ w ∈ mXw, va_Nw w U
set_option maxRecDepth 100000 in
theorem x_good : ∀ w ∈ (vx_at0 "PlaceNets" 84 xNS xNm).filter goodWord, w ∈ lw_tbl := by decide +kernel
set_option maxRecDepth 100000 in
theorem x_bad : ∀ w ∈ (vx_at0 "PlaceNets" 84 xNS xNm).filter (fun w => !goodWord w), w ∈ mXw := by decide +kernel
set_option maxRecDepth 100000 in
theorem x_ot : ∀ w ∈ Cond.classLink "PlaceNets" 82 xNS :: Cond.initialized xNS :: vx_at0 "PlaceNets" 84 xNS xNm, vx_ot w = true := by decide +kernel
set_option maxRecDepth 100000 in
theorem x_cl : Cond.classLink "PlaceNets" 82 xNS ∈ lw_tbl := by decide +kernel
set_option maxRecDepth 100000 in
theorem x_in : Cond.initialized xNS ∈ lw_tbl := by decide +kernel
