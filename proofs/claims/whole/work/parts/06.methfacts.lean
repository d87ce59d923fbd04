/-! Methods: descriptors; then what the tables say of a method by its number. -/
def mPn : List (String × Nat) := [("()I", 0), ("()LPlaceNets$Cover;", 0), ("()LPlaceNets$Flows;", 0), ("()LPlaceNets$Reach;", 0), ("()LPlaceNets$Sets;", 0), ("()LPlaceNets$Unfolding;", 0), ("()V", 0), ("()Z", 0), ("(C)Z", 1), ("(CC)Z", 2), ("(I)I", 1), ("(I)LPlaceNets$Flows;", 1), ("(I)V", 1), ("(I)Z", 1), ("(II)I", 2), ("(II)V", 2), ("(II)Z", 2), ("(III)I", 3), ("(III)V", 3), ("(I[I)I", 2), ("(I[I)Z", 2), ("(I[II)Z", 3), ("(I[I[I)Z", 3), ("(J)J", 1), ("(JJ)J", 2), ("(JJJ)Z", 3), ("(LPlaceNets$Net;)I", 1), ("(LPlaceNets$Net;)V", 1), ("(LPlaceNets$Net;)Z", 1), ("(LPlaceNets$Net;I)V", 2), ("(LPlaceNets$Net;I)Z", 2), ("(LPlaceNets$Net;II)V", 3), ("(LPlaceNets$Net;II)Z", 3), ("(LPlaceNets$Net;III)V", 4), ("(LPlaceNets$Net;IIII)V", 5), ("(LPlaceNets$Net;[I)V", 2), ("(LPlaceNets$Net;[III)I", 4), ("(LPlaceNets$Net;[III)J", 4), ("(LPlaceNets$Net;[III)V", 4), ("(Z)V", 1), ("([I)I", 1), ("([I)Z", 1), ("([II)I", 2), ("([II)V", 2), ("([II)Z", 2), ("([III)V", 3), ("([III)Z", 3), ("([IIII)V", 4), ("([IIII)Z", 4), ("([I[I[II)I", 4), ("([JI)I", 2), ("([JI)V", 2)]
def mPnOk (r : String × Nat) : Prop := (parseMethodDescriptor r.1).map (fun d => d.parameters.length) = some r.2
theorem t_pn0 : mPnOk ("()I", 0) := by unfold mPnOk; decide +kernel
theorem t_pn1 : mPnOk ("()LPlaceNets$Cover;", 0) := by unfold mPnOk; decide +kernel
theorem t_pn2 : mPnOk ("()LPlaceNets$Flows;", 0) := by unfold mPnOk; decide +kernel
theorem t_pn3 : mPnOk ("()LPlaceNets$Reach;", 0) := by unfold mPnOk; decide +kernel
theorem t_pn4 : mPnOk ("()LPlaceNets$Sets;", 0) := by unfold mPnOk; decide +kernel
theorem t_pn5 : mPnOk ("()LPlaceNets$Unfolding;", 0) := by unfold mPnOk; decide +kernel
theorem t_pn6 : mPnOk ("()V", 0) := by unfold mPnOk; decide +kernel
theorem t_pn7 : mPnOk ("()Z", 0) := by unfold mPnOk; decide +kernel
theorem t_pn8 : mPnOk ("(C)Z", 1) := by unfold mPnOk; decide +kernel
theorem t_pn9 : mPnOk ("(CC)Z", 2) := by unfold mPnOk; decide +kernel
theorem t_pn10 : mPnOk ("(I)I", 1) := by unfold mPnOk; decide +kernel
theorem t_pn11 : mPnOk ("(I)LPlaceNets$Flows;", 1) := by unfold mPnOk; decide +kernel
theorem t_pn12 : mPnOk ("(I)V", 1) := by unfold mPnOk; decide +kernel
theorem t_pn13 : mPnOk ("(I)Z", 1) := by unfold mPnOk; decide +kernel
theorem t_pn14 : mPnOk ("(II)I", 2) := by unfold mPnOk; decide +kernel
theorem t_pn15 : mPnOk ("(II)V", 2) := by unfold mPnOk; decide +kernel
theorem t_pn16 : mPnOk ("(II)Z", 2) := by unfold mPnOk; decide +kernel
theorem t_pn17 : mPnOk ("(III)I", 3) := by unfold mPnOk; decide +kernel
theorem t_pn18 : mPnOk ("(III)V", 3) := by unfold mPnOk; decide +kernel
theorem t_pn19 : mPnOk ("(I[I)I", 2) := by unfold mPnOk; decide +kernel
theorem t_pn20 : mPnOk ("(I[I)Z", 2) := by unfold mPnOk; decide +kernel
theorem t_pn21 : mPnOk ("(I[II)Z", 3) := by unfold mPnOk; decide +kernel
theorem t_pn22 : mPnOk ("(I[I[I)Z", 3) := by unfold mPnOk; decide +kernel
theorem t_pn23 : mPnOk ("(J)J", 1) := by unfold mPnOk; decide +kernel
theorem t_pn24 : mPnOk ("(JJ)J", 2) := by unfold mPnOk; decide +kernel
theorem t_pn25 : mPnOk ("(JJJ)Z", 3) := by unfold mPnOk; decide +kernel
theorem t_pn26 : mPnOk ("(LPlaceNets$Net;)I", 1) := by unfold mPnOk; decide +kernel
theorem t_pn27 : mPnOk ("(LPlaceNets$Net;)V", 1) := by unfold mPnOk; decide +kernel
theorem t_pn28 : mPnOk ("(LPlaceNets$Net;)Z", 1) := by unfold mPnOk; decide +kernel
theorem t_pn29 : mPnOk ("(LPlaceNets$Net;I)V", 2) := by unfold mPnOk; decide +kernel
theorem t_pn30 : mPnOk ("(LPlaceNets$Net;I)Z", 2) := by unfold mPnOk; decide +kernel
theorem t_pn31 : mPnOk ("(LPlaceNets$Net;II)V", 3) := by unfold mPnOk; decide +kernel
theorem t_pn32 : mPnOk ("(LPlaceNets$Net;II)Z", 3) := by unfold mPnOk; decide +kernel
theorem t_pn33 : mPnOk ("(LPlaceNets$Net;III)V", 4) := by unfold mPnOk; decide +kernel
theorem t_pn34 : mPnOk ("(LPlaceNets$Net;IIII)V", 5) := by unfold mPnOk; decide +kernel
theorem t_pn35 : mPnOk ("(LPlaceNets$Net;[I)V", 2) := by unfold mPnOk; decide +kernel
theorem t_pn36 : mPnOk ("(LPlaceNets$Net;[III)I", 4) := by unfold mPnOk; decide +kernel
theorem t_pn37 : mPnOk ("(LPlaceNets$Net;[III)J", 4) := by unfold mPnOk; decide +kernel
theorem t_pn38 : mPnOk ("(LPlaceNets$Net;[III)V", 4) := by unfold mPnOk; decide +kernel
theorem t_pn39 : mPnOk ("(Z)V", 1) := by unfold mPnOk; decide +kernel
theorem t_pn40 : mPnOk ("([I)I", 1) := by unfold mPnOk; decide +kernel
theorem t_pn41 : mPnOk ("([I)Z", 1) := by unfold mPnOk; decide +kernel
theorem t_pn42 : mPnOk ("([II)I", 2) := by unfold mPnOk; decide +kernel
theorem t_pn43 : mPnOk ("([II)V", 2) := by unfold mPnOk; decide +kernel
theorem t_pn44 : mPnOk ("([II)Z", 2) := by unfold mPnOk; decide +kernel
theorem t_pn45 : mPnOk ("([III)V", 3) := by unfold mPnOk; decide +kernel
theorem t_pn46 : mPnOk ("([III)Z", 3) := by unfold mPnOk; decide +kernel
theorem t_pn47 : mPnOk ("([IIII)V", 4) := by unfold mPnOk; decide +kernel
theorem t_pn48 : mPnOk ("([IIII)Z", 4) := by unfold mPnOk; decide +kernel
theorem t_pn49 : mPnOk ("([I[I[II)I", 4) := by unfold mPnOk; decide +kernel
theorem t_pn50 : mPnOk ("([JI)I", 2) := by unfold mPnOk; decide +kernel
theorem t_pn51 : mPnOk ("([JI)V", 2) := by unfold mPnOk; decide +kernel
theorem t_pn : ∀ r ∈ mPn, mPnOk r := List.forall_mem_cons.mpr ⟨t_pn0, List.forall_mem_cons.mpr ⟨t_pn1, List.forall_mem_cons.mpr ⟨t_pn2, List.forall_mem_cons.mpr ⟨t_pn3, List.forall_mem_cons.mpr ⟨t_pn4, List.forall_mem_cons.mpr ⟨t_pn5, List.forall_mem_cons.mpr ⟨t_pn6, List.forall_mem_cons.mpr ⟨t_pn7, List.forall_mem_cons.mpr ⟨t_pn8, List.forall_mem_cons.mpr ⟨t_pn9, List.forall_mem_cons.mpr ⟨t_pn10, List.forall_mem_cons.mpr ⟨t_pn11, List.forall_mem_cons.mpr ⟨t_pn12, List.forall_mem_cons.mpr ⟨t_pn13, List.forall_mem_cons.mpr ⟨t_pn14, List.forall_mem_cons.mpr ⟨t_pn15, List.forall_mem_cons.mpr ⟨t_pn16, List.forall_mem_cons.mpr ⟨t_pn17, List.forall_mem_cons.mpr ⟨t_pn18, List.forall_mem_cons.mpr ⟨t_pn19, List.forall_mem_cons.mpr ⟨t_pn20, List.forall_mem_cons.mpr ⟨t_pn21, List.forall_mem_cons.mpr ⟨t_pn22, List.forall_mem_cons.mpr ⟨t_pn23, List.forall_mem_cons.mpr ⟨t_pn24, List.forall_mem_cons.mpr ⟨t_pn25, List.forall_mem_cons.mpr ⟨t_pn26, List.forall_mem_cons.mpr ⟨t_pn27, List.forall_mem_cons.mpr ⟨t_pn28, List.forall_mem_cons.mpr ⟨t_pn29, List.forall_mem_cons.mpr ⟨t_pn30, List.forall_mem_cons.mpr ⟨t_pn31, List.forall_mem_cons.mpr ⟨t_pn32, List.forall_mem_cons.mpr ⟨t_pn33, List.forall_mem_cons.mpr ⟨t_pn34, List.forall_mem_cons.mpr ⟨t_pn35, List.forall_mem_cons.mpr ⟨t_pn36, List.forall_mem_cons.mpr ⟨t_pn37, List.forall_mem_cons.mpr ⟨t_pn38, List.forall_mem_cons.mpr ⟨t_pn39, List.forall_mem_cons.mpr ⟨t_pn40, List.forall_mem_cons.mpr ⟨t_pn41, List.forall_mem_cons.mpr ⟨t_pn42, List.forall_mem_cons.mpr ⟨t_pn43, List.forall_mem_cons.mpr ⟨t_pn44, List.forall_mem_cons.mpr ⟨t_pn45, List.forall_mem_cons.mpr ⟨t_pn46, List.forall_mem_cons.mpr ⟨t_pn47, List.forall_mem_cons.mpr ⟨t_pn48, List.forall_mem_cons.mpr ⟨t_pn49, List.forall_mem_cons.mpr ⟨t_pn50, List.forall_mem_cons.mpr ⟨t_pn51, fun _ h => absurd h List.not_mem_nil⟩⟩⟩⟩⟩⟩⟩⟩⟩⟩⟩⟩⟩⟩⟩⟩⟩⟩⟩⟩⟩⟩⟩⟩⟩⟩⟩⟩⟩⟩⟩⟩⟩⟩⟩⟩⟩⟩⟩⟩⟩⟩⟩⟩⟩⟩⟩⟩⟩⟩⟩⟩
set_option maxRecDepth 100000 in
theorem t_Gpn : mGm.tail.all (fun g => decide ((g.1.desc, if g.2.2.2.2.2.2.1 = 99 then g.2.2.2.2.2.1 else g.2.2.2.2.2.1 - 1) ∈ mPn) && (g.2.2.2.2.2.2.1 == 99 || g.2.2.2.2.2.1 != 0)) = true := by decide +kernel
theorem t_Glen : mGmP.length = mGm.length := by decide +kernel
theorem t_Glen2 : mGm.length = 241 := by decide +kernel
theorem t_gchunk {α β γ : Type} {f : α → Option β} {g : γ → Option β} {A : List α} {B : List γ} {a n k : Nat} {z : γ} (h : ((A.drop a).take n).map f = ((B.drop a).take n).map g) (h1 : a ≤ k) (h2 : k < a + n) (hz : B[k]? = some z) : ∃ y, A[k]? = some y ∧ f y = g z := by
  have e := congrArg (fun l => l[k - a]?) h
  simp only [List.getElem?_map, List.getElem?_take, List.getElem?_drop] at e
  rw [if_pos (by omega), if_pos (by omega), show a + (k - a) = k by omega, hz] at e
  cases hy : A[k]? with
  | none => rw [hy] at e; cases e
  | some y => rw [hy] at e; exact ⟨y, rfl, Option.some.inj e⟩
theorem t_Gc {k : Nat} {g : mG} (h : mGm.tail[k]? = some g) : Cond.code g.1 g.2.1 g.2.2.1 g.2.2.2.1 ∈ lw_tbl := by
  have hk : k < 240 := by
    have := (List.getElem?_eq_some_iff.mp h).1
    rw [List.length_tail, t_Glen2] at this
    exact this
  have key : ∃ y, mGmP.tail[k]? = some y ∧ mCd y = mCg g := by
    rcases Nat.lt_or_ge k 20 with q | q0
    · exact t_gchunk t_gc0 (Nat.zero_le _) q h
    rcases Nat.lt_or_ge k 40 with q | q1
    · exact t_gchunk t_gc1 q0 q h
    rcases Nat.lt_or_ge k 60 with q | q2
    · exact t_gchunk t_gc2 q1 q h
    rcases Nat.lt_or_ge k 80 with q | q3
    · exact t_gchunk t_gc3 q2 q h
    rcases Nat.lt_or_ge k 100 with q | q4
    · exact t_gchunk t_gc4 q3 q h
    rcases Nat.lt_or_ge k 120 with q | q5
    · exact t_gchunk t_gc5 q4 q h
    rcases Nat.lt_or_ge k 140 with q | q6
    · exact t_gchunk t_gc6 q5 q h
    rcases Nat.lt_or_ge k 160 with q | q7
    · exact t_gchunk t_gc7 q6 q h
    rcases Nat.lt_or_ge k 180 with q | q8
    · exact t_gchunk t_gc8 q7 q h
    rcases Nat.lt_or_ge k 200 with q | q9
    · exact t_gchunk t_gc9 q8 q h
    rcases Nat.lt_or_ge k 220 with q | q10
    · exact t_gchunk t_gc10 q9 q h
    rcases Nat.lt_or_ge k 240 with q | q11
    · exact t_gchunk t_gc11 q10 q h
    omega
  obtain ⟨y, -, hy⟩ := key
  exact List.mem_of_getElem? hy
theorem t_G0 {mi : Nat} {g : mG} (h : mGm[mi]? = some g) (h0 : mi ≠ 0) : mGm.tail[mi - 1]? = some g ∧ ∃ p, mCkG g p = true := by
  have hl := (List.getElem?_eq_some_iff.mp h).1
  obtain ⟨p, hp⟩ : ∃ p, mGmP[mi]? = some p := ⟨_, List.getElem?_eq_getElem (by rw [t_Glen]; exact hl)⟩
  have hz : (mGm.zip mGmP)[mi]? = some (g, p) := by
    rw [List.getElem?_zip_eq_some]
    exact ⟨h, hp⟩
  obtain ⟨k, rfl⟩ : ∃ k, mi = k + 1 := ⟨mi - 1, by omega⟩
  have ht : (mGm.zip mGmP).tail[k]? = some (g, p) := by rw [List.getElem?_tail]; exact hz
  exact ⟨by rw [List.getElem?_tail]; exact h, p, List.all_eq_true.mp t_Gall _ (List.mem_of_getElem? ht)⟩
/-- what the tables say of every method -/
theorem t_G {mi : Nat} {g : mG} (h : mGm[mi]? = some g) (h0 : mi ≠ 0) : Cond.code g.1 g.2.1 g.2.2.1 g.2.2.2.1 ∈ lw_tbl ∧ Cond.initialized g.1.cls ∈ lw_tbl ∧ plainName g.1.cls = true ∧ mOw g.2.2.2.2.1 = g.1.cls ∧ g.2.2.2.2.1 < 12 ∧ g.2.2.1 ≤ 40 ∧ (g.1.cls ≠ "java/lang/invoke/MethodHandle" ∧ g.1.cls ≠ "java/lang/invoke/VarHandle") := by
  obtain ⟨ht, p, hp⟩ := t_G0 h h0
  unfold mCkG at hp
  simp only [Bool.and_eq_true, decide_eq_true_eq] at hp
  obtain ⟨⟨⟨⟨⟨⟨h2, h3⟩, h4⟩, h5⟩, h6⟩, h7⟩, -⟩ := hp
  exact ⟨t_Gc ht, mAt_in h2, h3, h4, h5, h6, h7⟩
theorem t_Gd {mi : Nat} {g : mG} (h : mGm[mi]? = some g) (h0 : mi ≠ 0) : (parseMethodDescriptor g.1.desc).map (fun d => d.parameters.length) = some (if g.2.2.2.2.2.2.1 = 99 then g.2.2.2.2.2.1 else g.2.2.2.2.2.1 - 1) ∧ (g.2.2.2.2.2.2.1 = 99 ∨ g.2.2.2.2.2.1 ≠ 0) := by
  obtain ⟨ht, -⟩ := t_G0 h h0
  have h1 := List.all_eq_true.mp t_Gpn _ (List.mem_of_getElem? ht)
  simp only [Bool.and_eq_true, decide_eq_true_eq, Bool.or_eq_true, beq_iff_eq, bne_iff_ne] at h1
  exact ⟨t_pn _ h1.1, h1.2⟩
theorem t_Gs {mi : Nat} {g : mG} (h : mGm[mi]? = some g) (h0 : mi ≠ 0) (hc : g.2.2.2.2.2.2.1 = 99) : Cond.static g.1 ∈ lw_tbl ∧ (parseMethodDescriptor g.1.desc).map (fun d => d.parameters.length) = some g.2.2.2.2.2.1 ∧ g.2.2.2.2.2.2.2 = false := by
  obtain ⟨-, p, hp⟩ := t_G0 h h0
  have hd := (t_Gd h h0).1
  rw [if_pos hc] at hd
  unfold mCkG at hp
  simp only [Bool.and_eq_true, decide_eq_true_eq, hc, if_true] at hp
  obtain ⟨-, h1, h3⟩ := hp
  exact ⟨mAt_in h1, hd, by simpa using h3⟩
theorem t_Gi {mi : Nat} {g : mG} (h : mGm[mi]? = some g) (h0 : mi ≠ 0) (hc : g.2.2.2.2.2.2.1 ≠ 99) : Cond.instanceMethod g.1 ∈ lw_tbl ∧ (∃ n, (parseMethodDescriptor g.1.desc).map (fun d => d.parameters.length) = some n ∧ n + 1 = g.2.2.2.2.2.1) ∧ (∃ q, mCl[g.2.2.2.2.2.2.1]? = some q ∧ q.1 = g.1.cls) ∧ (g.2.2.2.2.2.2.2 = true → g.1.name = "<init>" ∧ g.2.2.2.1 = none) ∧ (g.2.2.2.2.2.2.2 = false → Cond.selects g.1.cls g.1 g.1 ∈ lw_tbl) := by
  obtain ⟨-, p, hp⟩ := t_G0 h h0
  obtain ⟨hd, hd2⟩ := t_Gd h h0
  rw [if_neg hc] at hd
  unfold mCkG at hp
  simp only [Bool.and_eq_true, decide_eq_true_eq] at hp
  obtain ⟨-, hp⟩ := hp
  rw [if_neg hc] at hp
  simp only [Bool.and_eq_true, decide_eq_true_eq] at hp
  obtain ⟨⟨h1, h3⟩, h4⟩ := hp
  refine ⟨mAt_in h1, ⟨_, hd, by rcases hd2 with e | e; exact absurd e hc; omega⟩, ?_, fun e => ?_, fun e => ?_⟩
  · cases hq : mCl[g.2.2.2.2.2.2.1]? with
    | none => rw [hq] at h3; cases h3
    | some q => rw [hq] at h3; exact ⟨q, rfl, Option.some.inj h3⟩
  · rw [if_pos e] at h4
    simp only [Bool.and_eq_true, decide_eq_true_eq] at h4
    exact h4
  · rw [e] at h4
    exact mAt_in h4
-- method links
def mBn (cm : Nat) : Option MethodName := match cm with
  | 901 => some objectInit
  | 902 => some arraycopyName
  | 903 => some Lib.Math.max.name
  | 904 => some Lib.MathLoose.min_long.x
  | 905 => some Lib.MathLoose.abs_long.x
  | _ => (mGm[cm]?).map (fun g => g.1)
def mCkM (o : Nat) (r : Nat × Nat × Nat × Nat) : Bool := match mBn r.2.1 with
  | some y => if r.2.2.2 = 0 then mAt r.2.2.1 (.methodLink (mOw o) r.1 y) else mAt r.2.2.1 (.methodLinkNest (mOw o) r.1 y "PlaceNets") && decide (r.2.1 < 900)
  | none => false
set_option maxRecDepth 100000 in
theorem t_Mall : ∀ o, o < 12 → (mLM o).all (mCkM o) = true := by decide +kernel
theorem t_M {o j cm p z : Nat} (ho : o < 12) (h : (mLM o).lookup j = some (cm, p, z)) : ∃ y, mBn cm = some y ∧ ((z = 0 ∧ Cond.methodLink (mOw o) j y ∈ lw_tbl) ∨ (z ≠ 0 ∧ cm < 900 ∧ Cond.methodLinkNest (mOw o) j y "PlaceNets" ∈ lw_tbl)) := by
  have h1 := List.all_eq_true.mp (t_Mall o ho) _ (m_lk _ _ _ h)
  unfold mCkM at h1
  dsimp only at h1
  cases hq : mBn cm with
  | none => rw [hq] at h1; cases h1
  | some y =>
    rw [hq] at h1
    refine ⟨y, rfl, ?_⟩
    by_cases hz : z = 0
    · simp only [hz, if_true] at h1
      exact Or.inl ⟨hz, mAt_in h1⟩
    · simp only [hz, if_false, Bool.and_eq_true, decide_eq_true_eq] at h1
      exact Or.inr ⟨hz, h1.2, mAt_in h1.1⟩
theorem t_law : mGm[0]? = some (x, code, 7, ret, 0, 1, 99, false) := rfl
