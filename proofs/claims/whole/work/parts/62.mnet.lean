/-! The model's net(), sign(), end(). -/
def tkOf (st : pS) (t p : Nat) : Nat := if t < 10 ∧ p < 10 then st.2.2.1 (t * 10 + p) else 0
def ptOf (st : pS) (t p : Nat) : Nat := if t < 10 ∧ p < 10 then st.2.2.2.1 (t * 10 + p) else 0
theorem okNet_of {st : pS} (h : okS st) : okNet st.1 st.2.1 (tkOf st) (ptOf st) st.2.2.2.2 := by
  obtain ⟨o1, o2, o3, o4, o5, o6, o7, o8⟩ := h
  refine ⟨o1, o2, fun t p => ?_, fun t p => ?_, o5, fun t p h => ?_, o8⟩
  · unfold tkOf; split
    · exact o3 _
    · omega
  · unfold ptOf; split
    · exact o4 _
    · omega
  · unfold tkOf ptOf
    by_cases q : t < 10 ∧ p < 10
    · rw [if_pos q, if_pos q]; exact ⟨o6 t p q.2 h, o7 t p q.2 h⟩
    · rw [if_neg q, if_neg q]; exact ⟨rfl, rfl⟩
/-- the model's net -/
def mNet (m : mMem) (o P T : Nat) (tk pt : Nat → Nat → Nat) : Prop := iF m o 6 = nI P ∧ iF m o 7 = nI T ∧ (∀ t, t < 10 → ∀ p, p < 10 → m.2.2.1 (64 * o + 2) (10 * t + p) = nI (tk t p)) ∧ (∀ t, t < 10 → ∀ p, p < 10 → m.2.2.1 (64 * o + 3) (10 * t + p) = nI (pt t p))
def mbA (o k : Nat) : Prop := k = 64 * o + 2 ∨ k = 64 * o + 3 ∨ k = 64 * o + 4 ∨ k = 64 * o + 5 ∨ k = 64 * o + 6 ∨ k = 64 * o + 21
def mbF (o k f : Nat) : Prop := k = o ∧ (f = 18 ∨ f = 6 ∨ f = 7 ∨ f = 20 ∨ f = 21 ∨ f = 27 ∨ f = 45)
def mBec (m' : mMem) (o : Nat) (st : pS) : Prop := iF m' o 18 = 1 ∧ mNet m' o st.1 st.2.1 (tkOf st) (ptOf st) ∧ (∀ p, p < 10 → m'.2.2.1 (64 * o + 4) p = nI (st.2.2.2.2 p)) ∧ (∀ p, p < 10 → m'.2.2.1 (64 * o + 5) p = nI (st.2.2.2.2 p)) ∧ (∀ p, p < 10 → m'.2.2.1 (64 * o + 6) p = 0) ∧ iF m' o 20 = 0 ∧ m'.2.2.1 (64 * o + 21) 0 = 0 ∧ m'.2.2.1 (64 * o + 21) 1 = 0 ∧ iF m' o 21 = 0 ∧ iF m' o 27 = 0 ∧ iF m' o 45 = 0
section MNET
variable {d o len a : Nat} {tx : Nat → Nat} {m : mMem} {Q : Option Value → mMem → Prop}
theorem ev_become {st : pS} (hd : 2 ≤ d) (hT : mWT m) (hO : m.1 o = some (.inr 8) ∧ o ≠ 0) (hN : pM m o st) (hQ : ∀ m', mTo (mbA o) (mbF o) m m' → mBec m' o st → Q none m') : mEv d 157 [.ref o] m Q := by
  obtain ⟨n1, n2, n3, n4, n5⟩ := id hN
  refine mEv.at (by omega) G157 (Nat.le_of_ble_eq_true rfl) ?_
  refine bk157_0 hT hO ?_
  rintro m1 rfl m2 rfl m3 rfl
  have T1 : mTo (mbA o) (mbF o) m (mSetF m o 18 (.int 1)) := (mTo.rf hT).sF hO (f := 18) ⟨rfl, by omega⟩ (by decide)
  rw [iF_nf (by decide), n1, iF_nf (by decide), iF_nf (by decide), n2]
  have T3 := (T1.sF (v := nI st.1) hO (f := 6) ⟨rfl, by omega⟩ (by decide)).sF (v := nI st.2.1) hO (f := 7) ⟨rfl, by omega⟩ (by decide)
  have a1 : iF (mSetF (mSetF (mSetF m o 18 (.int 1)) o 6 (.int (nI st.1))) o 7 (.int (nI st.2.1))) o 18 = 1 := by rw [iF_nf (by decide), iF_nf (by decide), iF_s]
  have a2 : iF (mSetF (mSetF (mSetF m o 18 (.int 1)) o 6 (.int (nI st.1))) o 7 (.int (nI st.2.1))) o 6 = nI st.1 := by rw [iF_nf (by decide), iF_s]
  have a3 : iF (mSetF (mSetF (mSetF m o 18 (.int 1)) o 6 (.int (nI st.1))) o 7 (.int (nI st.2.1))) o 7 = nI st.2.1 := iF_s
  generalize mSetF (mSetF (mSetF m o 18 (.int 1)) o 6 (.int (nI st.1))) o 7 (.int (nI st.2.1)) = m3 at *
  have h7 : m3.2.2.1 (64 * o + 7) = m.2.2.1 (64 * o + 7) := T3.i (by unfold mbA; omega)
  have h8 : m3.2.2.1 (64 * o + 8) = m.2.2.1 (64 * o + 8) := T3.i (by unfold mbA; omega)
  refine upto (e := 100) (X := fun i => ∀ m4, mTo (mbA o) (mbF o) m m4 → iF m4 o 18 = 1 → iF m4 o 6 = nI st.1 → iF m4 o 7 = nI st.2.1 → (∀ j, j < i → m4.2.2.1 (64 * o + 2) j = nI (st.2.2.1 j)) → (∀ j, j < i → m4.2.2.1 (64 * o + 3) j = nI (st.2.2.2.1 j)) → mEs (d - 1) 157 _ g157 (23, [some (.ref o), some (.int (nI i))], [], m4) Q) ?_ ?_ 0 (Nat.zero_le _) m3 T3 a1 a2 a3 (fun j hj => absurd hj (Nat.not_lt_zero _)) (fun j hj => absurd hj (Nat.not_lt_zero _))
  · intro m4 T4 b1 b2 b3 b4 b5
    refine bk157_23 T4.wt (T4.ob hO) ?_
    simp (disch := omega) only [forall_eq, nIle, nI_ltI, nIeq, nIx10, n10x, nI_add, nI_clamp, nIin_iff, nIinc, nIlt0, nIeq0, nIle0, nIle1, n1lt, n0lt, nIeq1, bz_0, Classical.not_not, l100]
    refine ⟨fun _ => ?_, fun c => absurd (Nat.le_refl _) c⟩
    refine upto (e := 10) (X := fun i => ∀ m5, mTo (mbA o) (mbF o) m m5 → iF m5 o 18 = 1 → iF m5 o 6 = nI st.1 → iF m5 o 7 = nI st.2.1 → (∀ j, j < 100 → m5.2.2.1 (64 * o + 2) j = nI (st.2.2.1 j)) → (∀ j, j < 100 → m5.2.2.1 (64 * o + 3) j = nI (st.2.2.2.1 j)) → (∀ p, p < i → m5.2.2.1 (64 * o + 4) p = nI (st.2.2.2.2 p)) → (∀ p, p < i → m5.2.2.1 (64 * o + 5) p = nI (st.2.2.2.2 p)) → (∀ p, p < i → m5.2.2.1 (64 * o + 6) p = 0) → mEs (d - 1) 157 _ g157 (61, [some (.ref o), some (.int (nI i))], [], m5) Q) ?_ ?_ 0 (Nat.zero_le _) m4 T4 b1 b2 b3 b4 b5 (fun j hj => absurd hj (Nat.not_lt_zero _)) (fun j hj => absurd hj (Nat.not_lt_zero _)) (fun j hj => absurd hj (Nat.not_lt_zero _))
    · intro m5 T5 c1 c2 c3 c4 c5 c6 c7 c8
      refine bk157_61 T5.wt (T5.ob hO) ?_
      simp (disch := omega) only [forall_eq, nIle, nI_ltI, nIeq, nIx10, n10x, nI_add, nI_clamp, nIin_iff, nIinc, nIlt0, nIeq0, nIle0, nIle1, n1lt, n0lt, nIeq1, bz_0, Classical.not_not, l10]
      refine ⟨fun _ => ⟨by decide, by decide, ?_⟩, fun c => absurd (Nat.le_refl _) c⟩
      rw [show (0 : Int32).toNatClampNeg = 0 from rfl, show (1 : Int32).toNatClampNeg = 1 from rfl]
      have T6 := T5.sF (v := 0) hO (f := 20) ⟨rfl, by omega⟩ (by decide)
      have T7 := T6.sI (k := 64 * o + 21) (g := upd ((mSetF m5 o 20 (.int 0)).2.2.1 (64 * o + 21)) 0 0) (by unfold mbA; omega)
      have T8 := T7.sI (k := 64 * o + 21) (g := upd ((mSetI (mSetF m5 o 20 (.int 0)) (64 * o + 21) (upd ((mSetF m5 o 20 (.int 0)).2.2.1 (64 * o + 21)) 0 0)).2.2.1 (64 * o + 21)) 1 0) (by unfold mbA; omega)
      refine ev_changed (by omega) T8.wt (T8.ob hO) ?_
      have T9 := ((T8.sF (v := 0) hO (f := 21) ⟨rfl, by omega⟩ (by decide)).sF (v := 0) hO (f := 27) ⟨rfl, by omega⟩ (by decide)).sF (v := 0) hO (f := 45) ⟨rfl, by omega⟩ (by decide)
      refine bk157_127 T9.wt (T9.ob hO) (hQ _ T9 ?_)
      refine ⟨?_, ⟨?_, ?_, ?_, ?_⟩, ?_, ?_, ?_, ?_, ?_, ?_, ?_, ?_, ?_⟩
      · simp (disch := omega) only [forall_eq, nIle, nI_ltI, nIeq, nIx10, n10x, nI_add, nI_clamp, nIin_iff, nIinc, nIlt0, nIeq0, nIle0, nIle1, n1lt, n0lt, nIeq1, bz_0, Classical.not_not, rdI_same, rdI_ne, rI_F, rI_J, rJ_F, rJ_I, rdJ_same, rdJ_ne, iF_s, iF_nf, iF_nk, iF_I, iF_J, up_s, up_n, c1]
      · simp (disch := omega) only [forall_eq, nIle, nI_ltI, nIeq, nIx10, n10x, nI_add, nI_clamp, nIin_iff, nIinc, nIlt0, nIeq0, nIle0, nIle1, n1lt, n0lt, nIeq1, bz_0, Classical.not_not, rdI_same, rdI_ne, rI_F, rI_J, rJ_F, rJ_I, rdJ_same, rdJ_ne, iF_s, iF_nf, iF_nk, iF_I, iF_J, up_s, up_n, c2]
      · simp (disch := omega) only [forall_eq, nIle, nI_ltI, nIeq, nIx10, n10x, nI_add, nI_clamp, nIin_iff, nIinc, nIlt0, nIeq0, nIle0, nIle1, n1lt, n0lt, nIeq1, bz_0, Classical.not_not, rdI_same, rdI_ne, rI_F, rI_J, rJ_F, rJ_I, rdJ_same, rdJ_ne, iF_s, iF_nf, iF_nk, iF_I, iF_J, up_s, up_n, c3]
      · intro t ht p hp
        simp (disch := omega) only [forall_eq, nIle, nI_ltI, nIeq, nIx10, n10x, nI_add, nI_clamp, nIin_iff, nIinc, nIlt0, nIeq0, nIle0, nIle1, n1lt, n0lt, nIeq1, bz_0, Classical.not_not, rdI_same, rdI_ne, rI_F, rI_J, rJ_F, rJ_I, rdJ_same, rdJ_ne, iF_s, iF_nf, iF_nk, iF_I, iF_J, up_s, up_n]
        rw [c4 _ (by omega), Nat.mul_comm, tkOf, if_pos ⟨ht, hp⟩]
      · intro t ht p hp
        simp (disch := omega) only [forall_eq, nIle, nI_ltI, nIeq, nIx10, n10x, nI_add, nI_clamp, nIin_iff, nIinc, nIlt0, nIeq0, nIle0, nIle1, n1lt, n0lt, nIeq1, bz_0, Classical.not_not, rdI_same, rdI_ne, rI_F, rI_J, rJ_F, rJ_I, rdJ_same, rdJ_ne, iF_s, iF_nf, iF_nk, iF_I, iF_J, up_s, up_n]
        rw [c5 _ (by omega), Nat.mul_comm, ptOf, if_pos ⟨ht, hp⟩]
      · intro p hp
        simp (disch := omega) only [forall_eq, nIle, nI_ltI, nIeq, nIx10, n10x, nI_add, nI_clamp, nIin_iff, nIinc, nIlt0, nIeq0, nIle0, nIle1, n1lt, n0lt, nIeq1, bz_0, Classical.not_not, rdI_same, rdI_ne, rI_F, rI_J, rJ_F, rJ_I, rdJ_same, rdJ_ne, iF_s, iF_nf, iF_nk, iF_I, iF_J, up_s, up_n]
        exact c6 p hp
      · intro p hp
        simp (disch := omega) only [forall_eq, nIle, nI_ltI, nIeq, nIx10, n10x, nI_add, nI_clamp, nIin_iff, nIinc, nIlt0, nIeq0, nIle0, nIle1, n1lt, n0lt, nIeq1, bz_0, Classical.not_not, rdI_same, rdI_ne, rI_F, rI_J, rJ_F, rJ_I, rdJ_same, rdJ_ne, iF_s, iF_nf, iF_nk, iF_I, iF_J, up_s, up_n]
        exact c7 p hp
      · intro p hp
        simp (disch := omega) only [forall_eq, nIle, nI_ltI, nIeq, nIx10, n10x, nI_add, nI_clamp, nIin_iff, nIinc, nIlt0, nIeq0, nIle0, nIle1, n1lt, n0lt, nIeq1, bz_0, Classical.not_not, rdI_same, rdI_ne, rI_F, rI_J, rJ_F, rJ_I, rdJ_same, rdJ_ne, iF_s, iF_nf, iF_nk, iF_I, iF_J, up_s, up_n]
        exact c8 p hp
      · simp (disch := omega) only [forall_eq, nIle, nI_ltI, nIeq, nIx10, n10x, nI_add, nI_clamp, nIin_iff, nIinc, nIlt0, nIeq0, nIle0, nIle1, n1lt, n0lt, nIeq1, bz_0, Classical.not_not, rdI_same, rdI_ne, rI_F, rI_J, rJ_F, rJ_I, rdJ_same, rdJ_ne, iF_s, iF_nf, iF_nk, iF_I, iF_J, up_s, up_n]
      · simp (disch := omega) only [forall_eq, nIle, nI_ltI, nIeq, nIx10, n10x, nI_add, nI_clamp, nIin_iff, nIinc, nIlt0, nIeq0, nIle0, nIle1, n1lt, n0lt, nIeq1, bz_0, Classical.not_not, rdI_same, rdI_ne, rI_F, rI_J, rJ_F, rJ_I, rdJ_same, rdJ_ne, iF_s, iF_nf, iF_nk, iF_I, iF_J, up_s, up_n]
      · simp (disch := omega) only [forall_eq, nIle, nI_ltI, nIeq, nIx10, n10x, nI_add, nI_clamp, nIin_iff, nIinc, nIlt0, nIeq0, nIle0, nIle1, n1lt, n0lt, nIeq1, bz_0, Classical.not_not, rdI_same, rdI_ne, rI_F, rI_J, rJ_F, rJ_I, rdJ_same, rdJ_ne, iF_s, iF_nf, iF_nk, iF_I, iF_J, up_s, up_n]
      · simp (disch := omega) only [forall_eq, nIle, nI_ltI, nIeq, nIx10, n10x, nI_add, nI_clamp, nIin_iff, nIinc, nIlt0, nIeq0, nIle0, nIle1, n1lt, n0lt, nIeq1, bz_0, Classical.not_not, rdI_same, rdI_ne, rI_F, rI_J, rJ_F, rJ_I, rdJ_same, rdJ_ne, iF_s, iF_nf, iF_nk, iF_I, iF_J, up_s, up_n]
      · simp (disch := omega) only [forall_eq, nIle, nI_ltI, nIeq, nIx10, n10x, nI_add, nI_clamp, nIin_iff, nIinc, nIlt0, nIeq0, nIle0, nIle1, n1lt, n0lt, nIeq1, bz_0, Classical.not_not, rdI_same, rdI_ne, rI_F, rI_J, rJ_F, rJ_I, rdJ_same, rdJ_ne, iF_s, iF_nf, iF_nk, iF_I, iF_J, up_s, up_n]
      · simp (disch := omega) only [forall_eq, nIle, nI_ltI, nIeq, nIx10, n10x, nI_add, nI_clamp, nIin_iff, nIinc, nIlt0, nIeq0, nIle0, nIle1, n1lt, n0lt, nIeq1, bz_0, Classical.not_not, rdI_same, rdI_ne, rI_F, rI_J, rJ_F, rJ_I, rdJ_same, rdJ_ne, iF_s, iF_nf, iF_nk, iF_I, iF_J, up_s, up_n]
    · intro i hi ih m5 T5 c1 c2 c3 c4 c5 c6 c7 c8
      have h9 : m5.2.2.1 (64 * o + 9) i = nI (st.2.2.2.2 i) := by rw [T5.i (by unfold mbA; omega)]; exact n5 i hi
      refine bk157_61 T5.wt (T5.ob hO) ?_
      simp (disch := omega) only [forall_eq, nIle, nI_ltI, nIeq, nIx10, n10x, nI_add, nI_clamp, nIin_iff, nIinc, nIlt0, nIeq0, nIle0, nIle1, n1lt, n0lt, nIeq1, bz_0, Classical.not_not, rdI_same, rdI_ne, rI_F, rI_J, rJ_F, rJ_I, rdJ_same, rdJ_ne, iF_s, iF_nf, iF_nk, iF_I, iF_J, up_s, up_n, l10, h9]
      refine ⟨fun c => by omega, fun _ => ⟨hi, hi, hi, hi, hi, ?_⟩⟩
      refine ih _ (((T5.sI (by unfold mbA; omega)).sI (by unfold mbA; omega)).sI (by unfold mbA; omega)) c1 c2 c3 ?_ ?_ ?_ ?_ ?_
      · intro j hj
        simp (disch := omega) only [forall_eq, nIle, nI_ltI, nIeq, nIx10, n10x, nI_add, nI_clamp, nIin_iff, nIinc, nIlt0, nIeq0, nIle0, nIle1, n1lt, n0lt, nIeq1, bz_0, Classical.not_not, rdI_same, rdI_ne, rI_F, rI_J, rJ_F, rJ_I, rdJ_same, rdJ_ne, iF_s, iF_nf, iF_nk, iF_I, iF_J, up_s, up_n]
        exact c4 j hj
      · intro j hj
        simp (disch := omega) only [forall_eq, nIle, nI_ltI, nIeq, nIx10, n10x, nI_add, nI_clamp, nIin_iff, nIinc, nIlt0, nIeq0, nIle0, nIle1, n1lt, n0lt, nIeq1, bz_0, Classical.not_not, rdI_same, rdI_ne, rI_F, rI_J, rJ_F, rJ_I, rdJ_same, rdJ_ne, iF_s, iF_nf, iF_nk, iF_I, iF_J, up_s, up_n]
        exact c5 j hj
      · intro p hp
        simp (disch := omega) only [forall_eq, nIle, nI_ltI, nIeq, nIx10, n10x, nI_add, nI_clamp, nIin_iff, nIinc, nIlt0, nIeq0, nIle0, nIle1, n1lt, n0lt, nIeq1, bz_0, Classical.not_not, rdI_same, rdI_ne, rI_F, rI_J, rJ_F, rJ_I, rdJ_same, rdJ_ne, iF_s, iF_nf, iF_nk, iF_I, iF_J, up_s, up_n]
        by_cases e : p = i
        · rw [e, up_s]
        · rw [up_n e]; exact c6 p (by omega)
      · intro p hp
        simp (disch := omega) only [forall_eq, nIle, nI_ltI, nIeq, nIx10, n10x, nI_add, nI_clamp, nIin_iff, nIinc, nIlt0, nIeq0, nIle0, nIle1, n1lt, n0lt, nIeq1, bz_0, Classical.not_not, rdI_same, rdI_ne, rI_F, rI_J, rJ_F, rJ_I, rdJ_same, rdJ_ne, iF_s, iF_nf, iF_nk, iF_I, iF_J, up_s, up_n]
        by_cases e : p = i
        · rw [e, up_s]
        · rw [up_n e]; exact c7 p (by omega)
      · intro p hp
        simp (disch := omega) only [forall_eq, nIle, nI_ltI, nIeq, nIx10, n10x, nI_add, nI_clamp, nIin_iff, nIinc, nIlt0, nIeq0, nIle0, nIle1, n1lt, n0lt, nIeq1, bz_0, Classical.not_not, rdI_same, rdI_ne, rI_F, rI_J, rJ_F, rJ_I, rdJ_same, rdJ_ne, iF_s, iF_nf, iF_nk, iF_I, iF_J, up_s, up_n]
        by_cases e : p = i
        · rw [e, up_s]
        · rw [up_n e]; exact c8 p (by omega)
  · intro i hi ih m4 T4 b1 b2 b3 b4 b5
    have h7 : m4.2.2.1 (64 * o + 7) i = nI (st.2.2.1 i) := by rw [T4.i (by unfold mbA; omega)]; exact n3 i (by omega)
    have h8 : m4.2.2.1 (64 * o + 8) i = nI (st.2.2.2.1 i) := by rw [T4.i (by unfold mbA; omega)]; exact n4 i (by omega)
    refine bk157_23 T4.wt (T4.ob hO) ?_
    simp (disch := omega) only [forall_eq, nIle, nI_ltI, nIeq, nIx10, n10x, nI_add, nI_clamp, nIin_iff, nIinc, nIlt0, nIeq0, nIle0, nIle1, n1lt, n0lt, nIeq1, bz_0, Classical.not_not, rdI_same, rdI_ne, rI_F, rI_J, rJ_F, rJ_I, rdJ_same, rdJ_ne, iF_s, iF_nf, iF_nk, iF_I, iF_J, up_s, up_n, l100, h7, h8]
    refine ⟨fun c => by omega, fun _ => ⟨by omega, hi, by omega, hi, ?_⟩⟩
    refine ih _ ((T4.sI (by unfold mbA; omega)).sI (by unfold mbA; omega)) b1 b2 b3 ?_ ?_
    · intro j hj
      simp (disch := omega) only [forall_eq, nIle, nI_ltI, nIeq, nIx10, n10x, nI_add, nI_clamp, nIin_iff, nIinc, nIlt0, nIeq0, nIle0, nIle1, n1lt, n0lt, nIeq1, bz_0, Classical.not_not, rdI_same, rdI_ne, rI_F, rI_J, rJ_F, rJ_I, rdJ_same, rdJ_ne, iF_s, iF_nf, iF_nk, iF_I, iF_J, up_s, up_n]
      by_cases e : j = i
      · rw [e, up_s]
      · rw [up_n e]; exact b4 j (by omega)
    · intro j hj
      simp (disch := omega) only [forall_eq, nIle, nI_ltI, nIeq, nIx10, n10x, nI_add, nI_clamp, nIin_iff, nIinc, nIlt0, nIeq0, nIle0, nIle1, n1lt, n0lt, nIeq1, bz_0, Classical.not_not, rdI_same, rdI_ne, rI_F, rI_J, rJ_F, rJ_I, rdJ_same, rdJ_ne, iF_s, iF_nf, iF_nk, iF_I, iF_J, up_s, up_n]
      by_cases e : j = i
      · rw [e, up_s]
      · rw [up_n e]; exact b5 j (by omega)
def mnF (o k f : Nat) : Prop := k = o ∧ (f = 0 ∨ f = 2 ∨ f = 3 ∨ f = 4 ∨ f = 5 ∨ f = 13 ∨ f = 14)
theorem ev_mNet (hd : 4 ≤ d) (hT : mWT m) (hX : mTxt m o tx len)
    (hQ1 : ∀ m' f, rnet tx len = .inl f → mTo (mpA o) (mnF o) m m' → iF m' o 0 = 0 → iF m' o 2 = 0 → Q (some (.int (-1000 - nI f))) m')
    (hQ2 : ∀ m' st, rnet tx len = .inr st → okS st → mTo (fun k => mpA o k ∨ mbA o k) (fun k f => mnF o k f ∨ mbF o k f) m m' → iF m' o 0 = 0 → iF m' o 2 = 0 → mBec m' o st → Q (some (.int (nI st.2.1))) m') : mEv d 152 [.ref o] m Q := by
  obtain ⟨hO, h0, hs, h240, h255⟩ := id hX
  refine mEv.at (by omega) G152 (Nat.le_of_ble_eq_true rfl) ?_
  refine bk152_0 hT hO ?_
  rintro m1 rfl m2 rfl m3 rfl m4 rfl m5 rfl
  have Ta : mTo (mpA o) (mnF o) m (mSetF m o 0 (.int 0)) := (mTo.rf hT).sF hO (f := 0) ⟨rfl, by omega⟩ (by decide)
  have T5 := (((Ta.sF (v := 0) hO (f := 3) ⟨rfl, by omega⟩ (by decide)).sF (v := 1) hO (f := 5) ⟨rfl, by omega⟩ (by decide)).sF (v := 0) hO (f := 13) ⟨rfl, by omega⟩ (by decide)).sF (v := 0) hO (f := 14) ⟨rfl, by omega⟩ (by decide)
  have a0 : iF (mSetF (mSetF (mSetF (mSetF (mSetF m o 0 (.int 0)) o 3 (.int 0)) o 5 (.int 1)) o 13 (.int 0)) o 14 (.int 0)) o 0 = 0 := by simp (disch := omega) only [forall_eq, nIle, nI_ltI, nIeq, nIx10, n10x, nI_add, nI_clamp, nIin_iff, nIinc, nIlt0, nIeq0, nIle0, nIle1, n1lt, n0lt, nIeq1, bz_0, Classical.not_not, rdI_same, rdI_ne, rI_F, rI_J, rJ_F, rJ_I, rdJ_same, rdJ_ne, iF_s, iF_nf, iF_nk, iF_I, iF_J, up_s, up_n]
  have a3 : iF (mSetF (mSetF (mSetF (mSetF (mSetF m o 0 (.int 0)) o 3 (.int 0)) o 5 (.int 1)) o 13 (.int 0)) o 14 (.int 0)) o 3 = 0 := by simp (disch := omega) only [forall_eq, nIle, nI_ltI, nIeq, nIx10, n10x, nI_add, nI_clamp, nIin_iff, nIinc, nIlt0, nIeq0, nIle0, nIle1, n1lt, n0lt, nIeq1, bz_0, Classical.not_not, rdI_same, rdI_ne, rI_F, rI_J, rJ_F, rJ_I, rdJ_same, rdJ_ne, iF_s, iF_nf, iF_nk, iF_I, iF_J, up_s, up_n]
  have a5 : iF (mSetF (mSetF (mSetF (mSetF (mSetF m o 0 (.int 0)) o 3 (.int 0)) o 5 (.int 1)) o 13 (.int 0)) o 14 (.int 0)) o 5 = 1 := by simp (disch := omega) only [forall_eq, nIle, nI_ltI, nIeq, nIx10, n10x, nI_add, nI_clamp, nIin_iff, nIinc, nIlt0, nIeq0, nIle0, nIle1, n1lt, n0lt, nIeq1, bz_0, Classical.not_not, rdI_same, rdI_ne, rI_F, rI_J, rJ_F, rJ_I, rdJ_same, rdJ_ne, iF_s, iF_nf, iF_nk, iF_I, iF_J, up_s, up_n]
  have a13 : iF (mSetF (mSetF (mSetF (mSetF (mSetF m o 0 (.int 0)) o 3 (.int 0)) o 5 (.int 1)) o 13 (.int 0)) o 14 (.int 0)) o 13 = 0 := by simp (disch := omega) only [forall_eq, nIle, nI_ltI, nIeq, nIx10, n10x, nI_add, nI_clamp, nIin_iff, nIinc, nIlt0, nIeq0, nIle0, nIle1, n1lt, n0lt, nIeq1, bz_0, Classical.not_not, rdI_same, rdI_ne, rI_F, rI_J, rJ_F, rJ_I, rdJ_same, rdJ_ne, iF_s, iF_nf, iF_nk, iF_I, iF_J, up_s, up_n]
  have a14 : iF (mSetF (mSetF (mSetF (mSetF (mSetF m o 0 (.int 0)) o 3 (.int 0)) o 5 (.int 1)) o 13 (.int 0)) o 14 (.int 0)) o 14 = 0 := by simp (disch := omega) only [forall_eq, nIle, nI_ltI, nIeq, nIx10, n10x, nI_add, nI_clamp, nIin_iff, nIinc, nIlt0, nIeq0, nIle0, nIle1, n1lt, n0lt, nIeq1, bz_0, Classical.not_not, rdI_same, rdI_ne, rI_F, rI_J, rJ_F, rJ_I, rdJ_same, rdJ_ne, iF_s, iF_nf, iF_nk, iF_I, iF_J, up_s, up_n]
  have a2 : iF (mSetF (mSetF (mSetF (mSetF (mSetF m o 0 (.int 0)) o 3 (.int 0)) o 5 (.int 1)) o 13 (.int 0)) o 14 (.int 0)) o 2 = nI len := by simp (disch := omega) only [forall_eq, nIle, nI_ltI, nIeq, nIx10, n10x, nI_add, nI_clamp, nIin_iff, nIinc, nIlt0, nIeq0, nIle0, nIle1, n1lt, n0lt, nIeq1, bz_0, Classical.not_not, rdI_same, rdI_ne, rI_F, rI_J, rJ_F, rJ_I, rdJ_same, rdJ_ne, iF_s, iF_nf, iF_nk, iF_I, iF_J, up_s, up_n, h0]
  generalize mSetF (mSetF (mSetF (mSetF (mSetF m o 0 (.int 0)) o 3 (.int 0)) o 5 (.int 1)) o 13 (.int 0)) o 14 (.int 0) = m5 at *
  generalize hR : rnet tx len = R at hQ1 hQ2
  -- the end
  have fin : ∀ (m6 : mMem) (x : Int32), mTo (mpA o) (mnF o) m m6 → iF m6 o 0 = 0 → ((∃ f, R = .inl f ∧ iF m6 o 5 = 0 ∧ iF m6 o 4 = nI f) ∨ (∃ st, R = .inr st ∧ okS st ∧ iF m6 o 5 = 1 ∧ pM m6 o st)) → mEs (d - 1) 152 (mBase [.ref o]) g152 (149, [some (.ref o), some (.int x)], [], m6) Q := by
    intro m6 x T6 z0 h
    have T7 := T6.sF (v := 0) hO (f := 2) ⟨rfl, by omega⟩ (by decide)
    refine bk152_149 T6.wt (T6.ob hO) ?_
    rintro m7 rfl
    rcases h with ⟨f, e1, e2, e3⟩ | ⟨st, e1, e2, e3, e4⟩
    · rw [iF_nf (by decide), iF_nf (by decide), e2, e3]
      exact ⟨fun c => absurd rfl c, fun _ => hQ1 _ f e1 T7 (by rw [iF_nf (by decide), z0]) iF_s⟩
    · rw [iF_nf (by decide), e3]
      refine ⟨fun _ => ?_, fun c => absurd (by decide) c⟩
      obtain ⟨n1, n2, n3, n4, n5⟩ := e4
      refine ev_become (st := st) (by omega) T7.wt (T7.ob hO) ⟨by rw [iF_nf (by decide), n1], by rw [iF_nf (by decide), n2], n3, n4, n5⟩ ?_
      intro m8 t8 p8
      have T8 : mTo (fun k => mpA o k ∨ mbA o k) (fun k f => mnF o k f ∨ mbF o k f) m m8 := (T7.mono (fun _ h => Or.inl h) (fun _ _ h => Or.inl h)).tr (t8.mono (fun _ h => Or.inr h) (fun _ _ h => Or.inr h))
      refine bk152_174 T8.wt (T8.ob hO) ?_
      rw [p8.2.1.2.1]
      exact hQ2 _ st e1 e2 T8 (by rw [t8.nf (by unfold mbF; omega), iF_nf (by decide), z0]) (by rw [t8.nf (by unfold mbF; omega), iF_s]) p8
  -- behind the last next()
  have tail : ∀ (m6 : mMem) (x : Int32) (b : Nat), mTo (mpA o) (mnF o) m m6 → iF m6 o 0 = 0 → iF m6 o 2 = nI len → iF m6 o 3 = nI b → b ≤ len → ((∃ f, R = .inl f ∧ iF m6 o 5 = 0 ∧ iF m6 o 4 = nI f) ∨ (∃ st, rps tx len b st = R ∧ ¬ (b < len ∧ tx b = 59) ∧ sk tx len b = b ∧ okS st ∧ iF m6 o 5 = 1 ∧ pM m6 o st)) → mEv (d - 1) 154 [.ref o] m6 (fun r m' => mEs (d - 1) 152 (mBase [.ref o]) g152 (115, [some (.ref o), some (.int x)], r.toList ++ [], m') Q) := by
    intro m6 x b T6 z0 z2 z3 hb h
    have hX6 : mTxt m6 o tx len := ⟨T6.ob hO, z2, by rw [T6.i (by unfold mpA; omega)]; exact hs, h240, h255⟩
    refine ev_next (by omega) T6.wt hX6 z3 hb ?_
    have T7 := T6.sF (v := nI (sk tx len b)) hO (f := 3) ⟨rfl, by omega⟩ (by decide)
    refine bk152_115 T7.wt (T7.ob hO) ?_
    rw [iF_s, iF_nf (f' := 5) (by decide), iF_nf (f' := 2) (by decide), iF_nf (f' := 13) (by decide), z2]
    rcases h with ⟨f, e1, e2, e3⟩ | ⟨st, e1, e2, e3, e4, e5, e6⟩
    · rw [e2]
      exact ⟨fun _ => fin _ x T7 (by rw [iF_nf (by decide), z0]) (Or.inl ⟨f, e1, by rw [iF_nf (by decide), e2], by rw [iF_nf (by decide), e3]⟩), fun c => absurd rfl c⟩
    · have T8 := (T7.sF (v := nI b) hO (f := 4) ⟨rfl, by omega⟩ (by decide)).sF (v := 0) hO (f := 5) ⟨rfl, by omega⟩ (by decide)
      rw [e3] at T7 T8 ⊢
      have e61 := e6.1
      rw [e5, e61]
      refine ⟨fun c => absurd c (by decide), fun _ => ?_⟩
      have bad : R = .inl b → mEv (d - 1) 156 [.ref o, .int (nI b)] (mSetF m6 o 3 (.int (nI b))) (fun r m' => mEs (d - 1) 152 (mBase [.ref o]) g152 (149, [some (.ref o), some (.int x)], r.toList ++ [], m') Q) := by
        intro q
        refine ev_wrong (by omega) T7.wt (T7.ob hO) (by rw [iF_nf (by decide), e5]) ?_
        exact fin _ x T8 (by simp (disch := omega) only [forall_eq, nIle, nI_ltI, nIeq, nIx10, n10x, nI_add, nI_clamp, nIin_iff, nIinc, nIlt0, nIeq0, nIle0, nIle1, n1lt, n0lt, nIeq1, bz_0, Classical.not_not, rdI_same, rdI_ne, rI_F, rI_J, rJ_F, rJ_I, rdJ_same, rdJ_ne, iF_s, iF_nf, iF_nk, iF_I, iF_J, up_s, up_n, z0]) (Or.inl ⟨b, q, iF_s, by simp (disch := omega) only [forall_eq, nIle, nI_ltI, nIeq, nIx10, n10x, nI_add, nI_clamp, nIin_iff, nIinc, nIlt0, nIeq0, nIle0, nIle1, n1lt, n0lt, nIeq1, bz_0, Classical.not_not, rdI_same, rdI_ne, rI_F, rI_J, rJ_F, rJ_I, rdJ_same, rdJ_ne, iF_s, iF_nf, iF_nk, iF_I, iF_J, up_s, up_n]⟩)
      have st10 := e4.1
      simp (disch := omega) only [forall_eq, nIle, nI_ltI, nIeq, nIx10, n10x, nI_add, nI_clamp, nIin_iff, nIinc, nIlt0, nIeq0, nIle0, nIle1, n1lt, n0lt, nIeq1, bz_0, Classical.not_not]
      refine ⟨fun c => bad ?_, fun c => ⟨fun c2 => ?_, fun c2 => bad ?_⟩⟩
      · rw [← e1, rps_x c (fun e => e2 ⟨c, e⟩)]
      · refine fin _ x T7 (by rw [iF_nf (by decide), z0]) (Or.inr ⟨st, ?_, e4, by rw [iF_nf (by decide), e5], ?_⟩)
        · rcases rps_e (tx := tx) (s := st) c with E | E
          · rw [← e1, E, if_neg c2]
          · omega
        · obtain ⟨n1, n2, n3, n4, n5⟩ := e6
          exact ⟨by rw [iF_nf (by decide), n1], by rw [iF_nf (by decide), n2], n3, n4, n5⟩
      · rcases rps_e (tx := tx) (s := st) c with E | E
        · rw [← e1, E, if_pos c2, show b = len by omega]
        · omega
  -- the loop over parts
  have loop : ∀ b, ∀ (m6 : mMem) (x : Int32) (st : pS), mTo (mpA o) (mnF o) m m6 → iF m6 o 0 = 0 → iF m6 o 2 = nI len → iF m6 o 3 = nI b → b ≤ len → sk tx len b = b → okS st → iF m6 o 5 = 1 → pM m6 o st → rps tx len b st = R → mEs (d - 1) 152 (mBase [.ref o]) g152 (78, [some (.ref o), some (.int x)], [], m6) Q := by
    intro b
    refine byMeas (X := fun b => ∀ (m6 : mMem) (x : Int32) (st : pS), mTo (mpA o) (mnF o) m m6 → iF m6 o 0 = 0 → iF m6 o 2 = nI len → iF m6 o 3 = nI b → b ≤ len → sk tx len b = b → okS st → iF m6 o 5 = 1 → pM m6 o st → rps tx len b st = R → mEs (d - 1) 152 (mBase [.ref o]) g152 (78, [some (.ref o), some (.int x)], [], m6) Q) (fun b => len - b) (fun b ih => ?_) b
    intro m6 x st T6 z0 z2 z3 hb hsk ho z5 zN eR
    have hX6 : mTxt m6 o tx len := ⟨T6.ob hO, z2, by rw [T6.i (by unfold mpA; omega)]; exact hs, h240, h255⟩
    refine bk152_78 T6.wt (T6.ob hO) ?_
    rw [z5]
    refine ⟨fun c => absurd c (by decide), fun _ => ?_⟩
    refine ev_next (by omega) T6.wt hX6 z3 hb ?_
    rw [hsk, mSetF_id (by rw [T6.wt.int (T6.ob hO) 3 (by decide), z3])]
    refine bk152_89 T6.wt (T6.ob hO) ?_
    rw [l59, nxV_eq h255 (by omega) (by omega), z3, nIinc]
    refine ⟨fun c => tail m6 x b T6 z0 z2 z3 hb (Or.inr ⟨st, eR, c, hsk, ho, z5, zN⟩), fun c => ?_⟩
    rw [Classical.not_not] at c
    rintro m7 rfl
    have T7 := T6.sF (v := nI (b + 1)) hO (f := 3) ⟨rfl, by omega⟩ (by decide)
    have hX7 : mTxt (mSetF m6 o 3 (.int (nI (b + 1)))) o tx len := ⟨T7.ob hO, by rw [iF_nf (by decide), z2], hX6.2.2.1, h240, h255⟩
    obtain ⟨n1, n2, n3, n4, n5⟩ := id zN
    refine ev_mPart (st := st) (a := b + 1) (by omega) T7.wt hX7 ⟨by rw [iF_nf (by decide), n1], by rw [iF_nf (by decide), n2], n3, n4, n5⟩ ho iF_s (by rw [iF_nf (by decide), z5]) (by omega) ?_
    intro m8 t8 p8
    have T8 := T7.tr (t8.mono (fun _ h => h) (fun k f h => by unfold mpF at h; unfold mnF; omega))
    have y0 : iF m8 o 0 = 0 := by rw [t8.nf (by unfold mpF; omega), iF_nf (by decide), z0]
    have y2 : iF m8 o 2 = nI len := by rw [t8.nf (by unfold mpF; omega), iF_nf (by decide), z2]
    refine bk152_108 T8.wt (T8.ob hO) ?_
    rw [rps_l ho c.1 c.2] at eR
    have h3 := sk_ge (tx := tx) (len := len) (b + 1)
    have g := rpart_good (tx := tx) (len := len) (a := sk tx len (b + 1)) (sk_le (by omega)) ho
    have gs := rpart_skd (tx := tx) (len := len) (a := sk tx len (b + 1)) (s := st) (sk_sk _)
    revert eR p8 g gs
    generalize rpart tx len (sk tx len (b + 1)) st = R1
    intro eR p8 g gs
    cases R1 with
    | inl f =>
      obtain ⟨w1, w2, b', w3, w4⟩ := p8
      refine bk152_78 T8.wt (T8.ob hO) ?_
      rw [w1]
      exact ⟨fun _ => tail m8 x b' T8 y0 y2 w4 w3 (Or.inl ⟨f, eR.symm, w1, w2⟩), fun c => absurd rfl c⟩
    | inr y =>
      obtain ⟨a', st'⟩ := y
      obtain ⟨g1, g2, g3⟩ := g
      obtain ⟨w1, w2, w3⟩ := p8
      exact ih a' (by omega) m8 x st' T8 y0 y2 w1 g2 gs g3 w2 w3 eR
  -- the rows are emptied
  refine upto (e := 110) (X := fun i => ∀ m6, mTo (mpA o) (mnF o) m m6 → iF m6 o 0 = 0 → iF m6 o 2 = nI len → iF m6 o 3 = 0 → iF m6 o 5 = 1 → iF m6 o 13 = 0 → iF m6 o 14 = 0 → (∀ j, j < i → m6.2.2.1 (64 * o + 7) j = 0) → (∀ j, j < i → m6.2.2.1 (64 * o + 8) j = 0) → mEs (d - 1) 152 _ g152 (27, [some (.ref o), some (.int (nI i))], [], m6) Q) ?_ ?_ 0 (Nat.zero_le _) m5 T5 a0 a2 a3 a5 a13 a14 (fun j hj => absurd hj (Nat.not_lt_zero _)) (fun j hj => absurd hj (Nat.not_lt_zero _))
  · intro m6 T6 b0 b2 b3 b5 b13 b14 b7 b8
    refine bk152_27 T6.wt (T6.ob hO) ?_
    simp (disch := omega) only [forall_eq, nIle, nI_ltI, nIeq, nIx10, n10x, nI_add, nI_clamp, nIin_iff, nIinc, nIlt0, nIeq0, nIle0, nIle1, n1lt, n0lt, nIeq1, bz_0, Classical.not_not, l110]
    refine ⟨fun _ => ?_, fun c => absurd (Nat.le_refl _) c⟩
    refine upto (e := 10) (X := fun i => ∀ m7, mTo (mpA o) (mnF o) m m7 → iF m7 o 0 = 0 → iF m7 o 2 = nI len → iF m7 o 3 = 0 → iF m7 o 5 = 1 → iF m7 o 13 = 0 → iF m7 o 14 = 0 → (∀ j, j < 110 → m7.2.2.1 (64 * o + 7) j = 0) → (∀ j, j < 110 → m7.2.2.1 (64 * o + 8) j = 0) → (∀ j, j < i → m7.2.2.1 (64 * o + 9) j = 0) → mEs (d - 1) 152 _ g152 (55, [some (.ref o), some (.int (nI i))], [], m7) Q) ?_ ?_ 0 (Nat.zero_le _) m6 T6 b0 b2 b3 b5 b13 b14 b7 b8 (fun j hj => absurd hj (Nat.not_lt_zero _))
    · intro m7 T7 c0 c2 c3 c5 c13 c14 c7 c8 c9
      refine bk152_55 T7.wt (T7.ob hO) ?_
      simp (disch := omega) only [forall_eq, nIle, nI_ltI, nIeq, nIx10, n10x, nI_add, nI_clamp, nIin_iff, nIinc, nIlt0, nIeq0, nIle0, nIle1, n1lt, n0lt, nIeq1, bz_0, Classical.not_not, l10]
      refine ⟨fun _ => ?_, fun c => absurd (Nat.le_refl _) c⟩
      have hX7 : mTxt m7 o tx len := ⟨T7.ob hO, c2, by rw [T7.i (by unfold mpA; omega)]; exact hs, h240, h255⟩
      refine ev_mPart (st := s00) (a := 0) (by omega) T7.wt hX7 ⟨c13, c14, c7, c8, c9⟩ ok00 c3 c5 (Nat.zero_le _) ?_
      intro m8 t8 p8
      have T8 := T7.tr (t8.mono (fun _ h => h) (fun k f h => by unfold mpF at h; unfold mnF; omega))
      have y0 : iF m8 o 0 = 0 := by rw [t8.nf (by unfold mpF; omega), c0]
      have y2 : iF m8 o 2 = nI len := by rw [t8.nf (by unfold mpF; omega), c2]
      unfold rnet at hR
      have g := rpart_good (tx := tx) (len := len) (a := sk tx len 0) (sk_le (Nat.zero_le _)) ok00
      have gs := rpart_skd (tx := tx) (len := len) (a := sk tx len 0) (s := s00) (sk_sk _)
      revert hR p8 g gs
      generalize rpart tx len (sk tx len 0) s00 = R1
      intro hR p8 g gs
      cases R1 with
      | inl f =>
        obtain ⟨w1, w2, b', w3, w4⟩ := p8
        refine bk152_78 T8.wt (T8.ob hO) ?_
        rw [w1]
        exact ⟨fun _ => tail m8 _ b' T8 y0 y2 w4 w3 (Or.inl ⟨f, hR.symm, w1, w2⟩), fun c => absurd rfl c⟩
      | inr y =>
        obtain ⟨a', st'⟩ := y
        obtain ⟨g1, g2, g3⟩ := g
        obtain ⟨w1, w2, w3⟩ := p8
        exact loop a' m8 _ st' T8 y0 y2 w1 g2 gs g3 w2 w3 hR
    · intro i hi ih m7 T7 c0 c2 c3 c5 c13 c14 c7 c8 c9
      refine bk152_55 T7.wt (T7.ob hO) ?_
      simp (disch := omega) only [forall_eq, nIle, nI_ltI, nIeq, nIx10, n10x, nI_add, nI_clamp, nIin_iff, nIinc, nIlt0, nIeq0, nIle0, nIle1, n1lt, n0lt, nIeq1, bz_0, Classical.not_not, l10]
      refine ⟨fun c => by omega, fun _ => ⟨hi, ?_⟩⟩
      refine ih _ (T7.sI (by unfold mpA; omega)) c0 c2 c3 c5 c13 c14 ?_ ?_ ?_
      · intro j hj
        simp (disch := omega) only [forall_eq, nIle, nI_ltI, nIeq, nIx10, n10x, nI_add, nI_clamp, nIin_iff, nIinc, nIlt0, nIeq0, nIle0, nIle1, n1lt, n0lt, nIeq1, bz_0, Classical.not_not, rdI_same, rdI_ne, rI_F, rI_J, rJ_F, rJ_I, rdJ_same, rdJ_ne, iF_s, iF_nf, iF_nk, iF_I, iF_J, up_s, up_n]
        exact c7 j hj
      · intro j hj
        simp (disch := omega) only [forall_eq, nIle, nI_ltI, nIeq, nIx10, n10x, nI_add, nI_clamp, nIin_iff, nIinc, nIlt0, nIeq0, nIle0, nIle1, n1lt, n0lt, nIeq1, bz_0, Classical.not_not, rdI_same, rdI_ne, rI_F, rI_J, rJ_F, rJ_I, rdJ_same, rdJ_ne, iF_s, iF_nf, iF_nk, iF_I, iF_J, up_s, up_n]
        exact c8 j hj
      · intro j hj
        simp (disch := omega) only [forall_eq, nIle, nI_ltI, nIeq, nIx10, n10x, nI_add, nI_clamp, nIin_iff, nIinc, nIlt0, nIeq0, nIle0, nIle1, n1lt, n0lt, nIeq1, bz_0, Classical.not_not, rdI_same, rdI_ne, rI_F, rI_J, rJ_F, rJ_I, rdJ_same, rdJ_ne, iF_s, iF_nf, iF_nk, iF_I, iF_J, up_s, up_n]
        by_cases e : j = i
        · rw [e, up_s]
        · rw [up_n e]; exact c9 j (by omega)
  · intro i hi ih m6 T6 b0 b2 b3 b5 b13 b14 b7 b8
    refine bk152_27 T6.wt (T6.ob hO) ?_
    simp (disch := omega) only [forall_eq, nIle, nI_ltI, nIeq, nIx10, n10x, nI_add, nI_clamp, nIin_iff, nIinc, nIlt0, nIeq0, nIle0, nIle1, n1lt, n0lt, nIeq1, bz_0, Classical.not_not, rdI_same, rdI_ne, rI_F, rI_J, rJ_F, rJ_I, rdJ_same, rdJ_ne, iF_s, iF_nf, iF_nk, iF_I, iF_J, up_s, up_n, l110]
    refine ⟨fun c => by omega, fun _ => ⟨hi, hi, ?_⟩⟩
    refine ih _ ((T6.sI (by unfold mpA; omega)).sI (by unfold mpA; omega)) b0 b2 b3 b5 b13 b14 ?_ ?_
    · intro j hj
      simp (disch := omega) only [forall_eq, nIle, nI_ltI, nIeq, nIx10, n10x, nI_add, nI_clamp, nIin_iff, nIinc, nIlt0, nIeq0, nIle0, nIle1, n1lt, n0lt, nIeq1, bz_0, Classical.not_not, rdI_same, rdI_ne, rI_F, rI_J, rJ_F, rJ_I, rdJ_same, rdJ_ne, iF_s, iF_nf, iF_nk, iF_I, iF_J, up_s, up_n]
      by_cases e : j = i
      · rw [e, up_s]
      · rw [up_n e]; exact b7 j (by omega)
    · intro j hj
      simp (disch := omega) only [forall_eq, nIle, nI_ltI, nIeq, nIx10, n10x, nI_add, nI_clamp, nIin_iff, nIinc, nIlt0, nIeq0, nIle0, nIle1, n1lt, n0lt, nIeq1, bz_0, Classical.not_not, rdI_same, rdI_ne, rI_F, rI_J, rJ_F, rJ_I, rdJ_same, rdJ_ne, iF_s, iF_nf, iF_nk, iF_I, iF_J, up_s, up_n]
      by_cases e : j = i
      · rw [e, up_s]
      · rw [up_n e]; exact b8 j (by omega)
end MNET
