/-! Steps that touch memory. -/
/-- the script, in the law alone: it is the cell 0 -/
def mScr (s : State) (A : Nat → Prop) (m0 : mMem) (φ0 : Nat → Nat) : Prop := ∃ (n : Nat) (xs : Nat → Int32), va_X (φ0 0) n xs s s.heap ∧ φ0 0 < s.heap.size ∧ ¬ A (φ0 0) ∧ m0.1 0 = some (.inl (.int, n)) ∧ m0.2.2.1 0 = xs
/-- an instruction: its step is the machine's -/
def mSoM (i : Instr) : Prop := ∀ (p : Program) (l : Launch) (e : Env) (R : Room) (s : State) (m : MethodId) (args : Array Value) (below : List Frame) (meth : Method) (c : Code) (H : Heap) (locs : List Loc) (Q : State → Prop) (c0 s0 : Nat)
    (D : va_G) (cT : FieldType → ClassId) (A : Nat → Prop) (g : mG) (d : Nat) (m0 mm : mMem) (φ0 φ : Nat → Nat) (L : mLo) (S : List Value) (ls : Array Slot) (nL pc : Nat) (cal : Nat → List Value → mMem → Option mRs) (mi b pc' : Nat) (L' : mLo) (S' : List Value) (mm' : mMem) (len : Nat),
    mStep cal d mi b g i pc L S mm = some (.inl (pc', L', S', mm')) → mCx p s m args meth c R D cT A g d → (mi = 0 → mScr s A m0 φ0) → decode g.2.1 pc = .ok (i, len) → (len = mLen i ∨ mSw i = true) → mRl D cT A s.heap m0 φ0 φ mm H locs → mFr φ mm L S ls nL →
    c0 ≤ mm.2.2.2.2.1 → s0 ≤ mm.2.2.2.2.2 → mm'.2.2.2.2.1 - c0 ≤ R.cells → mm'.2.2.2.2.2 - s0 ≤ R.slots →
    (∀ φ' H' locs' ls', mRl D cT A s.heap m0 φ0 φ' mm' H' locs' → mFr φ' mm' L' S' ls' nL → W p l e R s m args below meth c H' locs' (mm'.2.2.2.2.1 - c0) (mm'.2.2.2.2.2 - s0) Q (F0 m pc' ls' (S'.map (mCv φ')))) →
    W p l e R s m args below meth c H locs (mm.2.2.2.2.1 - c0) (mm.2.2.2.2.2 - s0) Q (F0 m pc ls (S.map (mCv φ)))
theorem mSoM_pure {i : Instr} (h : mSoP i) : mSoM i := by
  intro p l e R s m args below meth c H locs Q c0 s0 D cT A g d m0 mm φ0 φ L S ls nL pc cal mi b pc' L' S' mm' len hst C hsc hdg hlen hR hF hc0 hs0 hcl hsl kk
  refine h p l e R s m args below meth c H locs Q _ _ D cT A g d mm φ L S ls nL pc cal mi b pc' L' S' mm' len hst C hdg hlen hF (fun em ls' hF' => ?_)
  subst em
  exact kk φ H locs ls' hR hF'
-- the world's rows
theorem mWs_at {cT : FieldType → ClassId} {φ : Nat → Nat} {mm : mMem} {dom : List Nat} {q k : Nat} (h : dom[q]? = some k) : (mWs cT φ mm dom)[q]? = some (φ k, mEc cT φ mm k) := by
  unfold mWs
  rw [List.getElem?_map, h]
  rfl
theorem mWs_set {cT : FieldType → ClassId} {φ : Nat → Nat} {mm m2 : mMem} {dom : List Nat} {q k : Nat} (hn : dom.Nodup) (h : dom[q]? = some k) (he : ∀ j, j ≠ k → mEc cT φ m2 j = mEc cT φ mm j) : (mWs cT φ mm dom).set q (φ k, mEc cT φ m2 k) = mWs cT φ m2 dom := by
  have hl := (List.getElem?_eq_some_iff.mp h).1
  apply List.ext_getElem?
  intro n
  rw [List.getElem?_set]
  by_cases e : q = n
  · subst e
    rw [if_pos rfl, if_pos (by unfold mWs; rw [List.length_map]; exact hl), mWs_at h]
  · rw [if_neg e]
    unfold mWs
    rw [List.getElem?_map, List.getElem?_map]
    cases hj : dom[n]? with
    | none => rfl
    | some j =>
      have hjk : j ≠ k := by
        intro hjk
        subst hjk
        have h2 := (List.getElem?_eq_some_iff.mp hj).1
        have e1 := (List.getElem?_eq_some_iff.mp h).2
        have e2 := (List.getElem?_eq_some_iff.mp hj).2
        exact e ((List.getElem_inj hn).mp (e1.trans e2.symm))
      show some (φ j, mEc cT φ mm j) = some (φ j, mEc cT φ m2 j)
      rw [he j hjk]
theorem mEc_i {cT : FieldType → ClassId} {φ : Nat → Nat} {mm : mMem} {k n : Nat} {ty : FieldType} (h : mm.1 k = some (.inl (ty, n))) (ht : ty ≠ .long) : mEc cT φ mm k = .inl (cT ty, n, .inl (mm.2.2.1 k)) := by
  unfold mEc
  rw [h]
  dsimp only
  rw [if_neg ht]
theorem mEc_l {cT : FieldType → ClassId} {φ : Nat → Nat} {mm : mMem} {k n : Nat} (h : mm.1 k = some (.inl (.long, n))) : mEc cT φ mm k = .inl (cT .long, n, .inr (.inl (mm.2.2.2.1 k))) := by
  unfold mEc
  rw [h]
  rfl
theorem mEc_o {cT : FieldType → ClassId} {φ : Nat → Nat} {mm : mMem} {k ci : Nat} (h : mm.1 k = some (.inr ci)) : mEc cT φ mm k = .inr (ci, (List.range (mNf ci)).map (fun i => mCv φ (mm.2.1 k i))) := by
  unfold mEc
  rw [h]
theorem mIn_in {i : Int32} {n : Nat} (h : mIn i n = true) : vp_in i n := by
  unfold mIn at h
  simp only [Bool.and_eq_true, Bool.not_eq_true', decide_eq_false_iff_not, decide_eq_true_eq] at h
  intro q
  rcases q with q | q
  · exact h.1 q
  · omega
theorem mRow_eq {α : Type} {f : Nat → α} {k : Nat} {g : α} : mRow f k g k = g := by unfold mRow; rw [if_pos rfl]
theorem mRow_ne {α : Type} {f : Nat → α} {k j : Nat} {g : α} (h : j ≠ k) : mRow f k g j = f j := by unfold mRow; rw [if_neg h]
theorem mSetI_ec {cT : FieldType → ClassId} {φ : Nat → Nat} {mm : mMem} {k j : Nat} {f : Nat → Int32} (h : j ≠ k) : mEc cT φ (mSetI mm k f) j = mEc cT φ mm j := by
  unfold mEc mSetI
  dsimp only
  rw [mRow_ne h]
theorem mSetJ_ec {cT : FieldType → ClassId} {φ : Nat → Nat} {mm : mMem} {k j : Nat} {f : Nat → Int64} (h : j ≠ k) : mEc cT φ (mSetJ mm k f) j = mEc cT φ mm j := by
  unfold mEc mSetJ
  dsimp only
  rw [mRow_ne h]
theorem mSetF_ec {cT : FieldType → ClassId} {φ : Nat → Nat} {mm : mMem} {k j i : Nat} {v : Value} (h : j ≠ k) : mEc cT φ (mSetF mm k i v) j = mEc cT φ mm j := by
  unfold mEc mSetF
  dsimp only
  rw [mRow_ne h]
section MRL
variable {D : va_G} {cT : FieldType → ClassId} {A : Nat → Prop} {H0 H H1 : Heap} {m0 mm : mMem} {φ0 φ : Nat → Nat} {locs locs1 : List Loc} {k : Nat}
/-- a cell's place in the world -/
theorem mRl.cell (h : mRl D cT A H0 m0 φ0 φ mm H locs) (hk : k ≠ 0) (ha : mm.1 k ≠ none) : ∃ (dom : List Nat) (q : Nat), dom.Nodup ∧ (∀ k, k ∈ dom ↔ k ≠ 0 ∧ mm.1 k ≠ none) ∧ va_P D mCl (mWs cT φ mm dom) H ∧ va_D A (mWs cT φ mm dom) ∧ va_S A H0 H locs ∧ dom[q]? = some k ∧ (mWs cT φ mm dom)[q]? = some (φ k, mEc cT φ mm k) := by
  obtain ⟨-, -, dom, h1, h2, h3, h4, h5⟩ := h
  obtain ⟨q, hq⟩ := List.getElem?_of_mem ((h2 k).mpr ⟨hk, ha⟩)
  exact ⟨dom, q, h1, h2, h3, h4, h5, hq, mWs_at hq⟩
/-- behind a store of ints -/
theorem mRl.setI (h : mRl D cT A H0 m0 φ0 φ mm H locs) (hk : k ≠ 0) {f : Nat → Int32} {dom : List Nat} (hn : dom.Nodup) (hd : ∀ k, k ∈ dom ↔ k ≠ 0 ∧ mm.1 k ≠ none) (hP : va_P D mCl (mWs cT φ (mSetI mm k f) dom) H1) (hD : va_D A (mWs cT φ (mSetI mm k f) dom)) (hS : va_S A H0 H1 locs1) : mRl D cT A H0 m0 φ0 φ (mSetI mm k f) H1 locs1 :=
  ⟨⟨h.1.1, h.1.2⟩, ⟨h.2.1.1, by show mRow mm.2.2.1 k f 0 = _; rw [mRow_ne (Ne.symm hk)]; exact h.2.1.2⟩, dom, hn, hd, hP, hD, hS⟩
theorem mRl.setJ (h : mRl D cT A H0 m0 φ0 φ mm H locs) {f : Nat → Int64} {dom : List Nat} (hn : dom.Nodup) (hd : ∀ k, k ∈ dom ↔ k ≠ 0 ∧ mm.1 k ≠ none) (hP : va_P D mCl (mWs cT φ (mSetJ mm k f) dom) H1) (hD : va_D A (mWs cT φ (mSetJ mm k f) dom)) (hS : va_S A H0 H1 locs1) : mRl D cT A H0 m0 φ0 φ (mSetJ mm k f) H1 locs1 :=
  ⟨⟨h.1.1, h.1.2⟩, ⟨h.2.1.1, h.2.1.2⟩, dom, hn, hd, hP, hD, hS⟩
theorem mRl.setF (h : mRl D cT A H0 m0 φ0 φ mm H locs) {i : Nat} {v : Value} (hv : mOkV mm v) {dom : List Nat} (hn : dom.Nodup) (hd : ∀ k, k ∈ dom ↔ k ≠ 0 ∧ mm.1 k ≠ none) (hP : va_P D mCl (mWs cT φ (mSetF mm k i v) dom) H1) (hD : va_D A (mWs cT φ (mSetF mm k i v) dom)) (hS : va_S A H0 H1 locs1) : mRl D cT A H0 m0 φ0 φ (mSetF mm k i v) H1 locs1 := by
  refine ⟨⟨fun j ci hj => ⟨(h.1.1 j ci hj).1, fun i' => ?_⟩, h.1.2⟩, ⟨h.2.1.1, h.2.1.2⟩, dom, hn, hd, hP, hD, hS⟩
  show mOkV mm (mRow mm.2.1 k (updV (mm.2.1 k) i v) j i')
  by_cases e : j = k
  · subst e
    rw [mRow_eq]
    unfold updV
    by_cases e2 : i' = i
    · rw [if_pos e2]; exact hv
    · rw [if_neg e2]; exact (h.1.1 j ci hj).2 i'
  · rw [mRow_ne e]
    exact (h.1.1 j ci hj).2 i'
end MRL
theorem mFr.mem {φ : Nat → Nat} {mm m2 : mMem} {L : mLo} {S S' : List Value} {ls : Array Slot} {nL : Nat} (h : mFr φ mm L S ls nL) (e : m2.1 = mm.1) (hS : mOkS mm S') : mFr φ m2 L S' ls nL :=
  ⟨h.1, h.2.1, fun i v hv k hk => by rw [e]; exact h.2.2.1 i v hv k hk, fun v hv k hk => by rw [e]; exact hS v hv k hk⟩
theorem mRange_set (φ : Nat → Nat) (F : Nat → Value) (N f : Nat) (v : Value) : (List.range N).map (fun i => mCv φ (updV F f v i)) = ((List.range N).map (fun i => mCv φ (F i))).set f (mCv φ v) := by
  apply List.ext_getElem?
  intro n
  rw [List.getElem?_set]
  by_cases hn : n < N
  · rw [List.getElem?_map, List.getElem?_range hn]
    by_cases e : f = n
    · subst e
      rw [if_pos rfl, if_pos (by rw [List.length_map, List.length_range]; exact hn)]
      show some (mCv φ (updV F f v f)) = _
      unfold updV
      rw [if_pos rfl]
    · rw [if_neg e, List.getElem?_map, List.getElem?_range hn]
      show some (mCv φ (updV F f v n)) = _
      unfold updV
      rw [if_neg (Ne.symm e)]
      rfl
  · rw [List.getElem?_eq_none (by rw [List.length_map, List.length_range]; omega)]
    by_cases e : f = n
    · rw [if_pos e, if_neg (by rw [List.length_map, List.length_range]; omega)]
    · rw [if_neg e, List.getElem?_eq_none (by rw [List.length_map, List.length_range]; omega)]
theorem mCv_narrow {φ : Nat → Nat} {ty : FieldType} {v : Value} (h : narrow ty v = v) : narrow ty (mCv φ v) = mCv φ v := by
  cases v <;> first | exact h | (cases ty <;> rfl)
theorem mCv_fits {φ : Nat → Nat} {ty : FieldType} {v : Value} (h : fits ty v = true) : fits ty (mCv φ v) = true := by
  cases v <;> first | exact h | (cases ty <;> exact h)
theorem mLays_good {C : String} {T : u_T} {N : Nat} : ∀ w ∈ u_ws C T N, goodWord w = true := by
  intro w hw
  obtain ⟨k, -, rfl⟩ := List.mem_map.mp hw
  unfold u_lay
  split <;> rfl
