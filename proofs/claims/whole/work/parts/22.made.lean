/-! What a made object is: its own arrays, its numbers; by wip/whole/blocks.py out of the constructors. -/
def mOwn (ci : Nat) : List (Nat × Nat × FieldType × Nat) := match ci with
  | 0 => [(3, 4, .int, 10), (4, 5, .int, 10), (5, 6, .int, 100)]
  | 1 => [(1, 1, .char, 240)]
  | 2 => [(2, 1, .int, 10), (3, 2, .int, 110), (4, 3, .int, 110)]
  | 3 => [(3, 1, .int, 2000), (4, 2, .int, 200), (5, 3, .int, 200), (6, 4, .int, 200)]
  | 4 => [(6, 3, .int, 300), (7, 4, .int, 300), (8, 5, .boolean, 300), (9, 6, .int, 300), (10, 7, .long, 10)]
  | 5 => [(3, 1, .int, 300), (4, 2, .int, 3000), (5, 3, .int, 300), (6, 4, .int, 300), (7, 5, .int, 300), (8, 6, .int, 3000), (9, 7, .int, 300), (10, 8, .int, 1024), (11, 9, .int, 10)]
  | 6 => [(1, 1, .int, 252), (2, 2, .int, 252), (3, 3, .int, 10), (4, 4, .int, 10)]
  | 7 => [(4, 1, .int, 300), (5, 2, .int, 30), (6, 3, .int, 30), (7, 4, .boolean, 30), (8, 5, .int, 90), (9, 6, .int, 30), (10, 7, .int, 80), (11, 8, .int, 80), (12, 9, .int, 240), (13, 10, .int, 10), (14, 11, .int, 10), (15, 12, .int, 3), (16, 13, .int, 3)]
  | 8 => [(1, 1, .byte, 240), (8, 2, .int, 100), (9, 3, .int, 100), (10, 4, .int, 10), (11, 5, .int, 10), (12, 6, .int, 10), (15, 7, .int, 110), (16, 8, .int, 110), (17, 9, .int, 10), (19, 10, .int, 100), (22, 11, .int, 2010), (23, 12, .int, 201), (24, 13, .int, 201), (25, 14, .int, 201), (28, 15, .int, 3010), (29, 16, .int, 301), (30, 17, .int, 301), (31, 18, .int, 301), (32, 19, .int, 3010), (34, 20, .boolean, 301), (35, 21, .boolean, 2), (36, 22, .int, 2), (37, 23, .int, 6000), (38, 24, .long, 6020), (40, 25, .long, 6020), (43, 26, .long, 20), (44, 27, .boolean, 1024), (48, 28, .int, 31), (49, 29, .int, 93), (50, 30, .int, 31), (51, 31, .int, 31), (52, 32, .boolean, 31), (53, 33, .int, 310), (54, 34, .int, 31), (56, 35, .int, 81), (57, 36, .int, 81), (58, 37, .int, 81), (59, 38, .int, 3), (61, 39, .int, 3), (62, 40, .int, 3), (65, 41, .int, 3)]
  | _ => []
def mInts (ci : Nat) : List Nat := match ci with
  | 0 => [6, 7, 8]
  | 1 => [0, 2, 3]
  | 2 => [0, 1]
  | 3 => [0, 1, 2, 7]
  | 4 => [0, 1, 2, 3, 11, 12]
  | 5 => [0, 1, 2, 12, 13]
  | 6 => [0, 5, 6, 7]
  | 7 => [0, 1, 2, 3, 17, 18, 19]
  | 8 => [0, 2, 3, 4, 5, 6, 7, 13, 14, 18, 20, 21, 26, 27, 33, 39, 41, 42, 45, 46, 47, 55, 60, 63, 64]
  | _ => []
/-- well made: every object has its own arrays, and numbers where numbers are -/
def mWT (m : mMem) : Prop := ∀ (k ci : Nat), m.1 k = some (.inr ci) → (∀ r ∈ mOwn ci, m.2.1 k r.1 = .ref (64 * k + r.2.1) ∧ m.1 (64 * k + r.2.1) = some (.inl (r.2.2.1, r.2.2.2))) ∧ (∀ f ∈ mInts ci, ∃ v, m.2.1 k f = .int v)
/-- a number in a field -/
def iF (m : mMem) (k f : Nat) : Int32 := match m.2.1 k f with
  | .int v => v
  | _ => 0
theorem iF_of {m : mMem} {k f : Nat} {v : Int32} (h : m.2.1 k f = .int v) : iF m k f = v := by unfold iF; rw [h]
theorem mWT.int {m : mMem} (h : mWT m) {k ci : Nat} (hk : m.1 k = some (.inr ci) ∧ k ≠ 0) (f : Nat) (hf : f ∈ mInts ci) : m.2.1 k f = .int (iF m k f) := by
  obtain ⟨v, hv⟩ := (h k ci hk.1).2 f hf
  rw [iF_of hv, hv]
theorem mWT.own {m : mMem} (h : mWT m) {k ci : Nat} (hk : m.1 k = some (.inr ci) ∧ k ≠ 0) (i : Nat) {f st n : Nat} {ty : FieldType} (hi : (mOwn ci)[i]? = some (f, st, ty, n)) : m.2.1 k f = .ref (64 * k + st) := ((h k ci hk.1).1 _ (List.mem_of_getElem? hi)).1
theorem mWT.arr {m : mMem} (h : mWT m) {k ci : Nat} (hk : m.1 k = some (.inr ci) ∧ k ≠ 0) (i : Nat) {f st n : Nat} {ty : FieldType} (hi : (mOwn ci)[i]? = some (f, st, ty, n)) (hs : st ≠ 0) : m.1 (64 * k + st) = some (.inl (ty, n)) ∧ 64 * k + st ≠ 0 := ⟨((h k ci hk.1).1 _ (List.mem_of_getElem? hi)).2, by omega⟩
theorem rdF_same {m : mMem} {k f : Nat} {v : Value} : (mSetF m k f v).2.1 k f = v := by
  show mRow m.2.1 k (updV (m.2.1 k) f v) k f = v
  rw [mRow_eq]
  unfold updV
  rw [if_pos rfl]
theorem rdF_ne {m : mMem} {k k' f f' : Nat} {v : Value} (h : f' ≠ f) : (mSetF m k f v).2.1 k' f' = m.2.1 k' f' := by
  show mRow m.2.1 k (updV (m.2.1 k) f v) k' f' = _
  by_cases e : k' = k
  · subst e
    rw [mRow_eq]
    unfold updV
    rw [if_neg h]
  · rw [mRow_ne e]
theorem rdF_nk {m : mMem} {k k' f f' : Nat} {v : Value} (h : k' ≠ k) : (mSetF m k f v).2.1 k' f' = m.2.1 k' f' := by
  show mRow m.2.1 k (updV (m.2.1 k) f v) k' f' = _
  rw [mRow_ne h]
theorem rdI_same {m : mMem} {k : Nat} {f : Nat → Int32} : (mSetI m k f).2.2.1 k = f := mRow_eq
theorem rdI_ne {m : mMem} {k k' : Nat} {f : Nat → Int32} (h : k' ≠ k) : (mSetI m k f).2.2.1 k' = m.2.2.1 k' := mRow_ne h
theorem rdJ_same {m : mMem} {k : Nat} {f : Nat → Int64} : (mSetJ m k f).2.2.2.1 k = f := mRow_eq
theorem rdJ_ne {m : mMem} {k k' : Nat} {f : Nat → Int64} (h : k' ≠ k) : (mSetJ m k f).2.2.2.1 k' = m.2.2.2.1 k' := mRow_ne h
theorem mWT.setI {m : mMem} (h : mWT m) {k : Nat} {f : Nat → Int32} : mWT (mSetI m k f) := h
theorem mWT.setJ {m : mMem} (h : mWT m) {k : Nat} {f : Nat → Int64} : mWT (mSetJ m k f) := h
theorem mWT.setF {m : mMem} (h : mWT m) {k f ci : Nat} {v : Int32} (hk : m.1 k = some (.inr ci) ∧ k ≠ 0) (hf : ∀ r ∈ mOwn ci, r.1 ≠ f) : mWT (mSetF m k f (.int v)) := by
  intro k' ci' hk'
  have hk2 : m.1 k' = some (.inr ci') := hk'
  refine ⟨fun r hr => ?_, fun f' hf' => ?_⟩
  · by_cases e : k' = k
    · subst e
      have e2 : ci' = ci := by rw [hk.1] at hk2; cases hk2; rfl
      subst e2
      rw [rdF_ne (hf r hr)]
      exact (h k' ci' hk2).1 r hr
    · rw [rdF_nk e]
      exact (h k' ci' hk2).1 r hr
  · by_cases e : k' = k
    · subst e
      by_cases e2 : f' = f
      · subst e2
        exact ⟨v, rdF_same⟩
      · rw [rdF_ne e2]
        exact (h k' ci' hk2).2 f' hf'
    · rw [rdF_nk e]
      exact (h k' ci' hk2).2 f' hf'
/-- a field that is no number and no own array: any reference -/
theorem mWT.setR {m : mMem} (h : mWT m) {k f ci : Nat} {v : Value} (hk : m.1 k = some (.inr ci) ∧ k ≠ 0) (hf : ∀ r ∈ mOwn ci, r.1 ≠ f) (hf2 : f ∉ mInts ci) : mWT (mSetF m k f v) := by
  intro k' ci' hk'
  have hk2 : m.1 k' = some (.inr ci') := hk'
  refine ⟨fun r hr => ?_, fun f' hf' => ?_⟩
  · by_cases e : k' = k
    · subst e
      have e2 : ci' = ci := by rw [hk.1] at hk2; cases hk2; rfl
      subst e2
      rw [rdF_ne (hf r hr)]
      exact (h k' ci' hk2).1 r hr
    · rw [rdF_nk e]
      exact (h k' ci' hk2).1 r hr
  · by_cases e : k' = k
    · subst e
      have e2 : ci' = ci := by rw [hk.1] at hk2; cases hk2; rfl
      subst e2
      rw [rdF_ne (f := f) (f' := f') (fun e3 => hf2 (by rw [← e3]; exact hf'))]
      exact (h k' ci' hk2).2 f' hf'
    · rw [rdF_nk e]
      exact (h k' ci' hk2).2 f' hf'
/-- a decoded instruction, by its place in a method's table -/
def dOk (bs : ByteArray) (r : Nat × Instr × Nat) : Bool := decide (decode bs r.1 = .ok (r.2.1, r.2.2))
theorem dOk_of {bs : ByteArray} {pc len : Nat} {ins : Instr} (h : dOk bs (pc, ins, len) = true) : decode bs pc = .ok (ins, len) := of_decide_eq_true h
theorem dAt {bs : ByteArray} {tb : List (Nat × Instr × Nat)} (h : tb.all (dOk bs) = true) (i : Nat) {pc len : Nat} {ins : Instr} (hi : tb[i]? = some (pc, ins, len)) : decode bs pc = .ok (ins, len) := dOk_of (List.all_eq_true.mp h _ (List.mem_of_getElem? hi))
theorem kV {g1 : mG} {k : Nat} {As : List Value} {m : mMem} {ci : Nat} (h : m.1 k = some (.inr ci) ∧ k ≠ 0) (hc : g1.2.2.2.2.2.2.1 = ci) (hi : g1.2.2.2.2.2.2.2 = false) : mKok 0 g1 (.ref k :: As) m = true := by
  show (decide (m.1 k = some (.inr g1.2.2.2.2.2.2.1)) && k != 0 && !g1.2.2.2.2.2.2.2) = true
  rw [hc, hi]
  simp only [Bool.and_eq_true, decide_eq_true_eq, bne_iff_ne, Bool.not_false, and_true]
  exact ⟨h.1, h.2⟩
theorem vc_if {c A B P : Prop} (h : (c → A) ∧ (¬ c → B)) (ka : c → A → P) (kb : ¬ c → B → P) : P := (Classical.em c).elim (fun q => ka q (h.1 q)) (fun q => kb q (h.2 q))
theorem sw_out {x : Int32} {lo hi : Int} (h : ∀ k : Int, lo ≤ k → k ≤ hi → x.toInt = k → False) : x.toInt < lo ∨ hi < x.toInt := by
  by_cases h1 : x.toInt < lo
  · exact Or.inl h1
  · by_cases h2 : hi < x.toInt
    · exact Or.inr h2
    · exact (h x.toInt (by omega) (by omega) rfl).elim
theorem e_call2 {d mi b : Nat} {g : mG} {Q : Option Value → mMem → Prop} {pc pc' : Nat} {L : mLo} {S : List Value} {m : mMem} {i : Instr} {kind cm : Nat} {g1 : mG} {As rest : List Value} (k : mEv d cm As m (fun r m' => mEs d mi b g (pc', L, r.toList ++ rest, m') Q)) (hd : decode g.2.1 pc = .ok (i, 3)) (hi : ∀ cal, mStep cal d mi b g i pc L S m = mInv cal d kind cm pc L S m) (hl : mLen i = 3) (hg : mGm[cm]? = some g1) (h0 : cm ≠ 0) (hn : As.length = g1.2.2.2.2.2.1) (hs : (rest.map Value.category).sum ≤ 8) (hk : mKok kind g1 As m = true) (hp : pc + 3 = pc') (hS : S = As.reverse ++ rest) : mEs d mi b g (pc, L, S, m) Q := by
  subst hS
  exact e_call hd hi hl hg h0 hn hs hk hp k
section MWT
variable {d mi b : Nat} {g : mG} {Q : Option Value → mMem → Prop} {pc : Nat} {L : mLo} {S : List Value} {m : mMem}
theorem wtI {a : Nat} {f : Nat → Int32} (h : mWT m) (k : mWT (mSetI m a f) → mEs d mi b g (pc, L, S, mSetI m a f) Q) : mEs d mi b g (pc, L, S, mSetI m a f) Q := k h.setI
theorem wtJ {a : Nat} {f : Nat → Int64} (h : mWT m) (k : mWT (mSetJ m a f) → mEs d mi b g (pc, L, S, mSetJ m a f) Q) : mEs d mi b g (pc, L, S, mSetJ m a f) Q := k h.setJ
theorem wtF {x f ci : Nat} {v : Int32} (h : mWT m) (hk : m.1 x = some (.inr ci) ∧ x ≠ 0) (hf : ∀ r ∈ mOwn ci, r.1 ≠ f) (k : mWT (mSetF m x f (.int v)) → mEs d mi b g (pc, L, S, mSetF m x f (.int v)) Q) : mEs d mi b g (pc, L, S, mSetF m x f (.int v)) Q := k (h.setF hk hf)
theorem wtR {x f ci : Nat} {v : Value} (h : mWT m) (hk : m.1 x = some (.inr ci) ∧ x ≠ 0) (hf : ∀ r ∈ mOwn ci, r.1 ≠ f) (hf2 : f ∉ mInts ci) (k : mWT (mSetF m x f v) → mEs d mi b g (pc, L, S, mSetF m x f v) Q) : mEs d mi b g (pc, L, S, mSetF m x f v) Q := k (h.setR hk hf hf2)
end MWT
theorem hi0 {d mi b : Nat} {g : mG} {pc j cm p : Nat} {L : mLo} {S : List Value} {m : mMem} (h : (mLM g.2.2.2.2.1).lookup j = some (cm, p, 0)) : ∀ cal, mStep cal d mi b g (.invokevirtual j) pc L S m = mInv cal d 0 cm pc L S m := by
  intro cal
  show (match (mLM g.2.2.2.2.1).lookup j with | some (cm, _, 0) => mInv cal d 0 cm pc L S m | _ => none) = _
  rw [h]
  rfl
theorem hi1 {d mi b : Nat} {g : mG} {pc j cm p z : Nat} {L : mLo} {S : List Value} {m : mMem} (h : (mLM g.2.2.2.2.1).lookup j = some (cm, p, z)) : ∀ cal, mStep cal d mi b g (.invokespecial j) pc L S m = mInv cal d 1 cm pc L S m := by
  intro cal
  show (match (mLM g.2.2.2.2.1).lookup j with | some (cm, _, _) => mInv cal d 1 cm pc L S m | none => none) = _
  rw [h]
theorem hi2 {d mi b : Nat} {g : mG} {pc j cm p : Nat} {L : mLo} {S : List Value} {m : mMem} (h : (mLM g.2.2.2.2.1).lookup j = some (cm, p, 0)) : ∀ cal, mStep cal d mi b g (.invokestatic j) pc L S m = mInv cal d 2 cm pc L S m := by
  intro cal
  show (match (mLM g.2.2.2.2.1).lookup j with | some (cm, _, 0) => mInv cal d 2 cm pc L S m | _ => none) = _
  rw [h]
  rfl
theorem nar_i (x : Int32) : vp_nar .int x = x := rfl
theorem nb01 {v : Int32} (h : v = 0 ∨ v = 1) : narrow .boolean (.int v) = .int v := by rcases h with rfl | rfl <;> rfl
theorem fb01 {v : Int32} (h : v = 0 ∨ v = 1) : fits .boolean (.int v) = true := by rcases h with rfl | rfl <;> rfl
theorem vz01 {v : Int32} (h : v = 0 ∨ v = 1) : vp_nar .boolean v = v := by rcases h with rfl | rfl <;> decide
theorem iinc_1 (x : Int32) : x + Int32.ofInt 1 = x + 1 := congrArg (x + ·) (by decide)

