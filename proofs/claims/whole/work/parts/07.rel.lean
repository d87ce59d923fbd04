/-! The relation between the mini machine's memory and the heap. -/
def mCv (φ : Nat → Nat) (v : Value) : Value := match v with
  | .ref k => .ref (φ k)
  | v => v
theorem mCv_cat (φ : Nat → Nat) (v : Value) : (mCv φ v).category = v.category := by cases v <;> rfl
theorem mCv_sum (φ : Nat → Nat) (S : List Value) : ((S.map (mCv φ)).map (fun v => v.category)).sum = (S.map Value.category).sum := by
  rw [List.map_map]
  congr 1
  exact List.map_congr_left (fun v _ => mCv_cat φ v)
def mEc (cT : FieldType → ClassId) (φ : Nat → Nat) (mm : mMem) (k : Nat) : va_E := match mm.1 k with
  | some (.inl (ty, n)) => .inl (cT ty, n, if ty = .long then .inr (.inl (mm.2.2.2.1 k)) else .inl (mm.2.2.1 k))
  | some (.inr ci) => .inr (ci, (List.range (mNf ci)).map (fun i => mCv φ (mm.2.1 k i)))
  | none => .inr (0, [])
def mWs (cT : FieldType → ClassId) (φ : Nat → Nat) (mm : mMem) (dom : List Nat) : va_W := dom.map (fun k => (φ k, mEc cT φ mm k))
def mTys (cT : FieldType → ClassId) : List (ClassId × FieldType) := [(cT .int, .int), (cT .long, .long), (cT .byte, .byte), (cT .char, .char), (cT .boolean, .boolean)]
/-- a reference names a cell that is -/
def mOkV (mm : mMem) (v : Value) : Prop := ∀ k, v = .ref k → mm.1 k ≠ none
def mOkS (mm : mMem) (S : List Value) : Prop := ∀ v ∈ S, mOkV mm v
def mOkL (mm : mMem) (L : mLo) : Prop := ∀ i v, mLd L i = some v → mOkV mm v
def mOk (mm : mMem) : Prop := (∀ k ci, mm.1 k = some (.inr ci) → ci < 9 ∧ ∀ i, mOkV mm (mm.2.1 k i)) ∧ (∀ k ty n, mm.1 k = some (.inl (ty, n)) → ty = .int ∨ ty = .long ∨ ty = .byte ∨ ty = .char ∨ ty = .boolean)
/-- what was stays, under its address -/
def mExt (m0 mm : mMem) (φ0 φ : Nat → Nat) : Prop := (∀ k, m0.1 k ≠ none → φ k = φ0 k ∧ mm.1 k = m0.1 k) ∧ mm.2.2.1 0 = m0.2.2.1 0
def mRl (D : va_G) (cT : FieldType → ClassId) (A : Nat → Prop) (H0 : Heap) (m0 : mMem) (φ0 φ : Nat → Nat) (mm : mMem) (H : Heap) (locs : List Loc) : Prop :=
  mOk mm ∧ mExt m0 mm φ0 φ ∧ ∃ dom : List Nat, dom.Nodup ∧ (∀ k, k ∈ dom ↔ k ≠ 0 ∧ mm.1 k ≠ none) ∧ va_P D mCl (mWs cT φ mm dom) H ∧ va_D A (mWs cT φ mm dom) ∧ va_S A H0 H locs
def mAl (φ : Nat → Nat) (L : mLo) : List (Nat × Value) := (List.range L.length).filterMap (fun i => (mLd L i).map (fun v => (i, mCv φ v)))
def mFr (φ : Nat → Nat) (mm : mMem) (L : mLo) (S : List Value) (ls : Array Slot) (nL : Nat) : Prop := L.length = nL ∧ lv_has ls nL (mAl φ L) ∧ mOkL mm L ∧ mOkS mm S
-- small rows
theorem mOkV_int (mm : mMem) (x : Int32) : mOkV mm (.int x) := fun _ h => by cases h
theorem mOkV_long (mm : mMem) (x : Int64) : mOkV mm (.long x) := fun _ h => by cases h
theorem mOkV_null (mm : mMem) : mOkV mm .null := fun _ h => by cases h
theorem mOkS.cons {mm : mMem} {v : Value} {S : List Value} (h : mOkV mm v) (hS : mOkS mm S) : mOkS mm (v :: S) := fun w hw => by
  rcases List.mem_cons.mp hw with rfl | hw
  · exact h
  · exact hS w hw
theorem mOkS.tl {mm : mMem} {v : Value} {S : List Value} (h : mOkS mm (v :: S)) : mOkS mm S := fun w hw => h w (List.mem_cons_of_mem _ hw)
theorem mOkS.hd {mm : mMem} {v : Value} {S : List Value} (h : mOkS mm (v :: S)) : mOkV mm v := h v List.mem_cons_self
theorem mOkS.int {mm : mMem} {x : Int32} {S : List Value} (hS : mOkS mm S) : mOkS mm (.int x :: S) := hS.cons (mOkV_int mm x)
theorem mOkS.long {mm : mMem} {x : Int64} {S : List Value} (hS : mOkS mm S) : mOkS mm (.long x :: S) := hS.cons (mOkV_long mm x)
theorem mFr.stk {φ : Nat → Nat} {mm : mMem} {L : mLo} {S S' : List Value} {ls : Array Slot} {nL : Nat} (h : mFr φ mm L S ls nL) (hS : mOkS mm S') : mFr φ mm L S' ls nL := ⟨h.1, h.2.1, h.2.2.1, hS⟩
theorem mLd_lt {L : mLo} {i : Nat} {v : Value} (h : mLd L i = some v) : i < L.length := by
  unfold mLd at h
  cases hi : L[i]? with
  | none => rw [hi] at h; cases h
  | some o => exact (List.getElem?_eq_some_iff.mp hi).1
theorem mLd_set (L : mLo) (i j : Nat) (x : Option Value) : mLd (L.set i x) j = if j = i ∧ i < L.length then x else mLd L j := by
  unfold mLd
  rw [List.getElem?_set]
  by_cases hij : i = j
  · subst hij
    by_cases hl : i < L.length
    · rw [if_pos rfl, if_pos hl, if_pos ⟨rfl, hl⟩]
      cases x <;> rfl
    · rw [if_pos rfl, if_neg hl, if_neg (fun h => hl h.2), List.getElem?_eq_none (by omega)]
  · rw [if_neg hij, if_neg (fun h => hij h.1.symm)]
theorem mAl_mem {φ : Nat → Nat} {L : mLo} {q : Nat × Value} : q ∈ mAl φ L ↔ ∃ v, mLd L q.1 = some v ∧ q.2 = mCv φ v := by
  unfold mAl
  rw [List.mem_filterMap]
  constructor
  · rintro ⟨i, hi, h⟩
    cases hv : mLd L i with
    | none => rw [hv] at h; cases h
    | some v =>
      rw [hv] at h
      have e : (i, mCv φ v) = q := Option.some.inj h
      subst e
      exact ⟨v, hv, rfl⟩
  · rintro ⟨v, hv, h⟩
    exact ⟨q.1, List.mem_range.mpr (mLd_lt hv), by rw [hv]; show some (q.1, mCv φ v) = some q; rw [← h]⟩
theorem mFr.at {φ : Nat → Nat} {mm : mMem} {L : mLo} {S : List Value} {ls : Array Slot} {nL i : Nat} {v : Value} (h : mFr φ mm L S ls nL) (hi : mLd L i = some v) : ls[i]? = some (.val (mCv φ v)) := h.2.1.2.2 (i, mCv φ v) (mAl_mem.mpr ⟨v, hi, rfl⟩)
theorem mKl_len (L : mLo) (i : Nat) : (mKl L i).length = L.length := by
  unfold mKl
  cases i with
  | zero => rfl
  | succ j =>
    dsimp only
    cases mLd L j with
    | none => rfl
    | some v =>
      dsimp only
      split
      · exact List.length_set
      · rfl
theorem mKl_ld (L : mLo) (i j : Nat) (w : Value) (h : mLd (mKl L i) j = some w) : mLd L j = some w ∧ ¬ (j + 1 = i ∧ w.category = 2) := by
  unfold mKl at h
  cases i with
  | zero => exact ⟨h, fun q => by omega⟩
  | succ i =>
    dsimp only at h
    cases hv : mLd L i with
    | none =>
      rw [hv] at h
      refine ⟨h, fun q => ?_⟩
      have e : j = i := by omega
      subst e
      have h2 : mLd L j = some w := h
      rw [hv] at h2
      cases h2
    | some v =>
      rw [hv] at h
      dsimp only at h
      by_cases hc : v.category = 2
      · rw [if_pos hc, mLd_set] at h
        by_cases e : j = i ∧ i < L.length
        · rw [if_pos e] at h; cases h
        · rw [if_neg e] at h
          refine ⟨h, fun q => e ⟨by omega, ?_⟩⟩
          exact mLd_lt hv
      · rw [if_neg hc] at h
        refine ⟨h, fun q => ?_⟩
        have e : j = i := by omega
        subst e
        rw [hv] at h
        cases h
        exact hc q.2
theorem mS1_ld {L : mLo} {i j : Nat} {v w : Value} (h : mLd (mS1 L i v) j = some w) : (j = i ∧ w = v) ∨ (j ≠ i ∧ mLd L j = some w ∧ ¬ (j + 1 = i ∧ w.category = 2)) := by
  unfold mS1 at h
  rw [mLd_set] at h
  by_cases e : j = i ∧ i < (mKl L i).length
  · rw [if_pos e] at h
    exact Or.inl ⟨e.1, (Option.some.inj h).symm⟩
  · rw [if_neg e] at h
    have hl := mLd_lt h
    refine Or.inr ⟨fun q => e ⟨q, by omega⟩, mKl_ld L i j w h⟩
theorem mS2_ld {L : mLo} {i j : Nat} {v w : Value} (h : mLd (mS2 L i v) j = some w) : (j = i ∧ w = v) ∨ (j ≠ i ∧ j ≠ i + 1 ∧ mLd L j = some w ∧ ¬ (j + 1 = i ∧ w.category = 2)) := by
  unfold mS2 at h
  have hlen : j < (mKl L i).length := by
    have := mLd_lt h
    rw [List.length_set, List.length_set] at this
    exact this
  rw [mLd_set] at h
  by_cases e : j = i + 1 ∧ i + 1 < ((mKl L i).set i (some v)).length
  · rw [if_pos e] at h; cases h
  · rw [if_neg e] at h
    rw [mLd_set] at h
    by_cases e2 : j = i ∧ i < (mKl L i).length
    · rw [if_pos e2] at h
      exact Or.inl ⟨e2.1, (Option.some.inj h).symm⟩
    · rw [if_neg e2] at h
      refine Or.inr ⟨fun q => e2 ⟨q, by omega⟩, fun q => e ⟨q, ?_⟩, mKl_ld L i j w h⟩
      rw [List.length_set]
      omega
theorem mS1_len (L : mLo) (i : Nat) (v : Value) : (mS1 L i v).length = L.length := by unfold mS1; rw [List.length_set, mKl_len]
theorem mS2_len (L : mLo) (i : Nat) (v : Value) : (mS2 L i v).length = L.length := by unfold mS2; rw [List.length_set, List.length_set, mKl_len]
/-- behind a store of one slot -/
theorem mFr.st1 {φ : Nat → Nat} {mm : mMem} {L : mLo} {S S' : List Value} {ls ls' : Array Slot} {nL i : Nat} {v : Value} (h : mFr φ mm L S ls nL) (hv : mOkV mm v) (hS : mOkS mm S') (hl : lv_has ls' nL ((i, mCv φ v) :: (mAl φ L).filter (fun q => !(q.1 == i) && !(q.1 + 1 == i && q.2.category == 2)))) : mFr φ mm (mS1 L i v) S' ls' nL := by
  refine ⟨(mS1_len L i v).trans h.1, ⟨hl.1, hl.2.1, fun q hq => hl.2.2 q ?_⟩, fun j w hw => ?_, hS⟩
  · obtain ⟨w, h1, h2⟩ := mAl_mem.mp hq
    obtain ⟨j, u⟩ := q
    dsimp only at h1 h2
    rcases mS1_ld h1 with ⟨rfl, rfl⟩ | ⟨n1, n2, n3⟩
    · rw [h2]; exact List.mem_cons_self
    · refine List.mem_cons_of_mem _ (List.mem_filter.mpr ⟨mAl_mem.mpr ⟨w, n2, h2⟩, ?_⟩)
      have hc : u.category = w.category := by rw [h2]; exact mCv_cat φ w
      simp only [Bool.and_eq_true, Bool.not_eq_true', beq_eq_false_iff_ne, ne_eq, Bool.and_eq_false_iff, hc]
      refine ⟨n1, ?_⟩
      by_cases e : j + 1 = i
      · exact Or.inr (fun q => n3 ⟨e, q⟩)
      · exact Or.inl e
  · rcases mS1_ld hw with ⟨rfl, rfl⟩ | ⟨n1, n2, n3⟩
    · exact hv
    · exact h.2.2.1 j w n2
theorem mFr.st2 {φ : Nat → Nat} {mm : mMem} {L : mLo} {S S' : List Value} {ls ls' : Array Slot} {nL i : Nat} {v : Value} (h : mFr φ mm L S ls nL) (hv : mOkV mm v) (hS : mOkS mm S') (hl : lv_has ls' nL ((i, mCv φ v) :: (mAl φ L).filter (fun q => !(q.1 == i) && (!(q.1 == i + 1) && !(q.1 + 1 == i && q.2.category == 2))))) : mFr φ mm (mS2 L i v) S' ls' nL := by
  refine ⟨(mS2_len L i v).trans h.1, ⟨hl.1, hl.2.1, fun q hq => hl.2.2 q ?_⟩, fun j w hw => ?_, hS⟩
  · obtain ⟨w, h1, h2⟩ := mAl_mem.mp hq
    obtain ⟨j, u⟩ := q
    dsimp only at h1 h2
    rcases mS2_ld h1 with ⟨rfl, rfl⟩ | ⟨n1, n0, n2, n3⟩
    · rw [h2]; exact List.mem_cons_self
    · refine List.mem_cons_of_mem _ (List.mem_filter.mpr ⟨mAl_mem.mpr ⟨w, n2, h2⟩, ?_⟩)
      have hc : u.category = w.category := by rw [h2]; exact mCv_cat φ w
      simp only [Bool.and_eq_true, Bool.not_eq_true', beq_eq_false_iff_ne, ne_eq, Bool.and_eq_false_iff, hc]
      refine ⟨n1, n0, ?_⟩
      by_cases e : j + 1 = i
      · exact Or.inr (fun q => n3 ⟨e, q⟩)
      · exact Or.inl e
  · rcases mS2_ld hw with ⟨rfl, rfl⟩ | ⟨n1, n0, n2, n3⟩
    · exact hv
    · exact h.2.2.1 j w n2
