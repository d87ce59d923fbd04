/-! The tables' facts: each word that a step of the mini machine needs stands in lw_tbl. -/
theorem m_lk {β : Type} : ∀ (l : List (Nat × β)) (j : Nat) (v : β), l.lookup j = some v → (j, v) ∈ l
  | [], j, v, h => by simp at h
  | (a, b) :: l, j, v, h => by
    rw [List.lookup_cons] at h
    cases hj : j == a with
    | true =>
      rw [hj] at h
      have e : j = a := by simpa using hj
      cases h
      subst e
      exact List.mem_cons_self
    | false =>
      rw [hj] at h
      exact List.mem_cons_of_mem _ (m_lk l j v h)
def mAt (i : Nat) (w : Cond) : Bool := decide (lw_tbl[i]? = some w)
theorem mAt_in {i : Nat} {w : Cond} (h : mAt i w = true) : w ∈ lw_tbl := List.mem_of_getElem? (of_decide_eq_true h)
/-- the words that a call may carry over -/
def mTb : List Cond := lw_tbl.filter goodWord
theorem mTb_good {w : Cond} (h : w ∈ mTb) : w ∈ lw_tbl ∧ ((w.onTables && w.keeps) = true ∨ ∃ ty, w = .arrayClass ty) := ⟨(List.mem_filter.mp h).1, good_of_word (List.mem_filter.mp h).2⟩
theorem mTb_in {w : Cond} (h : w ∈ lw_tbl) (hg : goodWord w = true) : w ∈ mTb := List.mem_filter.mpr ⟨h, hg⟩
-- classes
def mCkC (ci : Nat) (q : vw_C) (p : List Nat × Nat × Nat) : Bool :=
  (List.range q.2.2).all (fun k => (match p.1[k]? with | some i => mAt i (u_lay q.1 q.2.1 k) | none => false) && decide (parseFieldDescriptor (q.2.1 k).2.2.1 = some (mTy ci k)) && decide ((q.2.1 k).1 = q.1) && (List.range q.2.2).all (fun j => j == k || decide ((q.2.1 k).2.1 ≠ (q.2.1 j).2.1))) && mAt p.2.1 (.instantiable q.1 q.2.2) && mAt p.2.2 (.initialized q.1) && decide (q.2.2 = mNf ci)
set_option maxRecDepth 100000 in
theorem t_Call : ∀ ci, ci < 9 → (match mCl[ci]?, mClP[ci]? with | some q, some p => mCkC ci q p | _, _ => false) = true := by decide +kernel
theorem t_C {ci : Nat} {q : vw_C} (h : mCl[ci]? = some q) : (∀ w ∈ u_ws q.1 q.2.1 q.2.2, w ∈ lw_tbl) ∧ (∀ k, k < q.2.2 → parseFieldDescriptor (q.2.1 k).2.2.1 = some (mTy ci k)) ∧ (∀ a, a < q.2.2 → ∀ b, b < q.2.2 → a ≠ b → (q.2.1 a).2.1 ≠ (q.2.1 b).2.1) ∧ (∀ k, k < q.2.2 → (q.2.1 k).1 = q.1) ∧ Cond.instantiable q.1 q.2.2 ∈ lw_tbl ∧ Cond.initialized q.1 ∈ lw_tbl ∧ q.2.2 = mNf ci := by
  have hci : ci < 9 := (List.getElem?_eq_some_iff.mp h).1
  have h1 := t_Call ci hci
  rw [h] at h1
  cases hp : mClP[ci]? with
  | none => rw [hp] at h1; cases h1
  | some p =>
    rw [hp] at h1
    simp only [mCkC, Bool.and_eq_true, List.all_eq_true, List.mem_range, decide_eq_true_eq, Bool.or_eq_true, beq_iff_eq] at h1
    obtain ⟨⟨⟨h1, h2⟩, h3⟩, h4⟩ := h1
    refine ⟨fun w hw => ?_, fun k hk => (h1 k hk).1.1.2, fun a ha b hb hab => ?_, fun k hk => (h1 k hk).1.2, mAt_in h2, mAt_in h3, h4⟩
    · obtain ⟨k, hk, rfl⟩ := List.mem_map.mp hw
      have h5 := (h1 k (List.mem_range.mp hk)).1.1.1
      cases hk2 : p.1[k]? with
      | none => rw [hk2] at h5; cases h5
      | some i => rw [hk2] at h5; exact mAt_in h5
    · rcases (h1 a ha).2 b hb with e | e
      · exact absurd e.symm hab
      · exact e
-- fields
def mCkF (o : Nat) (r : Nat × Nat × Nat × Nat) : Bool := match mCl[r.2.1]? with
  | some q => decide (r.2.2.1 < q.2.2) && mAt r.2.2.2 (.fieldLink (mOw o) r.1 q.1 (q.2.1 r.2.2.1).2.1 (q.2.1 r.2.2.1).2.2.1)
  | none => false
set_option maxRecDepth 100000 in
theorem t_Fall : ∀ o, o < 12 → (mLF o).all (mCkF o) = true := by decide +kernel
theorem t_F {o j ci f p : Nat} (ho : o < 12) (h : (mLF o).lookup j = some (ci, f, p)) : ∃ q, mCl[ci]? = some q ∧ f < q.2.2 ∧ Cond.fieldLink (mOw o) j q.1 (q.2.1 f).2.1 (q.2.1 f).2.2.1 ∈ lw_tbl := by
  have h1 := List.all_eq_true.mp (t_Fall o ho) _ (m_lk _ _ _ h)
  unfold mCkF at h1
  dsimp only at h1
  cases hq : mCl[ci]? with
  | none => rw [hq] at h1; cases h1
  | some q =>
    rw [hq] at h1
    simp only [Bool.and_eq_true, decide_eq_true_eq] at h1
    exact ⟨q, rfl, h1.1, mAt_in h1.2⟩
-- class links
def mCkL (o : Nat) (r : Nat × Nat × Nat) : Bool := match mCl[r.2.1]? with
  | some q => mAt r.2.2 (.classLink (mOw o) r.1 q.1)
  | none => false
set_option maxRecDepth 100000 in
theorem t_Lall : ∀ o, o < 12 → (mLC o).all (mCkL o) = true := by decide +kernel
theorem t_L {o j ci p : Nat} (ho : o < 12) (h : (mLC o).lookup j = some (ci, p)) : ∃ q, mCl[ci]? = some q ∧ Cond.classLink (mOw o) j q.1 ∈ lw_tbl := by
  have h1 := List.all_eq_true.mp (t_Lall o ho) _ (m_lk _ _ _ h)
  unfold mCkL at h1
  dsimp only at h1
  cases hq : mCl[ci]? with
  | none => rw [hq] at h1; cases h1
  | some q =>
    rw [hq] at h1
    exact ⟨q, rfl, mAt_in h1⟩
-- constants
set_option maxRecDepth 100000 in
theorem t_Iall : ∀ o, o < 12 → (mLI o).all (fun r => mAt r.2.2 (.constant (mOw o) r.1 r.2.1)) = true := by decide +kernel
theorem t_I {o j p : Nat} {v : Int32} (ho : o < 12) (h : (mLI o).lookup j = some (v, p)) : Cond.constant (mOw o) j v ∈ lw_tbl := mAt_in (List.all_eq_true.mp (t_Iall o ho) _ (m_lk _ _ _ h))
set_option maxRecDepth 100000 in
theorem t_Jall : ∀ o, o < 12 → (mLJ o).all (fun r => mAt r.2.2 (.constantLong (mOw o) r.1 r.2.1)) = true := by decide +kernel
theorem t_J {o j p : Nat} {v : Int64} (ho : o < 12) (h : (mLJ o).lookup j = some (v, p)) : Cond.constantLong (mOw o) j v ∈ lw_tbl := mAt_in (List.all_eq_true.mp (t_Jall o ho) _ (m_lk _ _ _ h))
-- arrays
set_option maxRecDepth 100000 in
theorem t_Aall : ∀ a ∈ [ArrayType.int, .long, .byte, .char, .boolean], mAt (mArP (newarray.typeOf a)) (.arrayClass (newarray.typeOf a)) = true := by decide +kernel
theorem t_A {a : ArrayType} (h : mArP (newarray.typeOf a) ≠ 0) : Cond.arrayClass (newarray.typeOf a) ∈ lw_tbl ∧ (a = .int ∨ a = .long ∨ a = .byte ∨ a = .char ∨ a = .boolean) := by
  cases a <;> first | exact absurd rfl h | exact ⟨mAt_in (t_Aall _ (by simp)), by simp⟩
