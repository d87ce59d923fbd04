/-! The class Cover: the tree, and what is told of it. -/
/-- the tree as it lies in the class when it is built -/
def covC (m : mMem) (c P T : Nat) (tk : Nat → Nat → Nat) (S : cvS) : Prop := (m.1 c = some (.inr 3) ∧ c ≠ 0) ∧ cvOk S ∧ iF m c 7 = nI P ∧ ((S.1 = 201 ∧ iF m c 2 = 1) ∨ (S.1 ≤ 200 ∧ iF m c 2 = 0 ∧ cvR m c P S ∧ ∀ k, k < S.1 → m.2.2.1 (64 * c + 4) k = nI (endS P T tk S.2.1 k)))
theorem endS_3 {P T : Nat} {tk h : Nat → Nat → Nat} {i : Nat} : endS P T tk h i ≤ 2 := by
  unfold endS
  by_cases q : oldS P h i
  · rw [cif_t q]; omega
  · rw [cif_f q]
    by_cases q2 : ∃ t, t < T ∧ enS P tk (h i) t
    · rw [cif_t q2]; omega
    · rw [cif_f q2]; omega
section CCV2
variable {d c n P T r lr : Nat} {tk pt : Nat → Nat → Nat} {fi mk va vb : Nat → Nat} {S : cvS} {m : mMem} {Q : Option Value → mMem → Prop}
theorem cvR.to {A : Nat → Prop} {F : Nat → Nat → Prop} {m' : mMem} (h : cvR m c P S) (ht : mTo A F m m') (h1 : ¬ A (64 * c + 1)) (h2 : ¬ A (64 * c + 2)) (h3 : ¬ A (64 * c + 3)) (h4 : ¬ F c 7) (h5 : ¬ F c 1) : cvR m' c P S := by
  obtain ⟨r1, r2, r3, r4, r5⟩ := h
  refine ⟨by rw [ht.nf h4]; exact r1, by rw [ht.nf h5]; exact r2, ?_, ?_, ?_⟩
  · rw [ht.i h1]; exact r3
  · rw [ht.i h2]; exact r4
  · rw [ht.i h3]; exact r5
def cgF (c k f : Nat) : Prop := k = c ∧ (f = 1 ∨ f = 2)
/-- how the class stands behind some transitions of a node -/
def cvM (m : mMem) (c P : Nat) (S : cvS) : Prop := (S.1 = 201 ∧ iF m c 2 = 1) ∨ (S.1 ≤ 200 ∧ iF m c 2 = 0 ∧ cvR m c P S)
theorem ev_grow {i : Nat} (hd : 3 ≤ d) (hT : mWT m) (hO : m.1 c = some (.inr 3) ∧ c ≠ 0) (hN : cNet m n P T tk pt fi) (hk : okNet P T tk pt fi) (hnc : n ≠ c) (hR : cvR m c P S) (hok : cvOk S) (hi : i < S.1) (h200 : S.1 ≤ 200) (h2 : iF m c 2 = 0)
    (hQ : ∀ m', mTo (cvA c) (cgF c) m m' → cvM m' c P (cvF P tk pt S i T) → Q (some (.int (bz (∃ t, t < T ∧ enS P tk (S.2.1 i) t)))) m') : mEv d 44 [.ref c, .ref n, .int (nI i)] m Q := by
  have hk2 := hk.2.1
  refine mEv.at (by omega) G44 (Nat.le_of_ble_eq_true rfl) ?_
  refine bk44_0 hT hO hN.1 ?_
  refine upto (e := T) (X := fun t => ∀ (m' : mMem) (b : Int32), mTo (cvA c) (cgF c) m m' → iF m' c 2 = 0 → (cvF P tk pt S i t).1 ≤ 200 → cvR m' c P (cvF P tk pt S i t) → b = bz (∃ u, u < t ∧ enS P tk (S.2.1 i) u) → mEs (d - 1) 44 _ g44 (5, [some (.ref c), some (.ref n), some (.int (nI i)), some (.int b), some (.int (nI t))], [], m') Q) ?_ ?_ 0 (Nat.zero_le _) m _ (mTo.rf hT) h2 h200 hR (bz_f (fun ⟨u, h, _⟩ => absurd h (Nat.not_lt_zero _))).symm
  · intro m' b T' y2 y200 yR hb
    have gN := hN.to T' (by unfold cvA; omega) (by unfold cvA; omega) (by unfold cvA; omega) (by unfold cgF; omega) (by unfold cgF; omega)
    refine bk44_5 T'.wt (T'.ob hO) (T'.ob hN.1) ?_
    simp (disch := omega) only [forall_eq, l2, l3, l4, l9, l10, l11, l12, l20, l30, l80, l90, l99, l100, l110, l200, l240, l252, l300, l1024, l1M, nI_mul, nIle, nI_ltI, nIeq, nIx10, n10x, nI_add, nI_clamp, nIin_iff, nIinc, nIlt0, nIeq0, nIle0, nIle1, n1lt, n0lt, nIeq1, bz_0, Classical.not_not, gN.2.2.1]
    refine ⟨fun _ => ⟨by rw [hb]; exact bz_01 _, ?_⟩, fun c => absurd (Nat.le_refl _) c⟩
    rw [hb]
    exact hQ m' T' (Or.inr ⟨y200, y2, yR⟩)
  · intro t ht ih m' b T' y2 y200 yR hb
    have gN := hN.to T' (by unfold cvA; omega) (by unfold cvA; omega) (by unfold cvA; omega) (by unfold cgF; omega) (by unfold cgF; omega)
    obtain ⟨w1, w2, w3⟩ := cvF_all hk hok hi t (by omega)
    have w3i := w3 i hi
    refine bk44_5 T'.wt (T'.ob hO) (T'.ob hN.1) ?_
    simp (disch := omega) only [forall_eq, l2, l3, l4, l9, l10, l11, l12, l20, l30, l80, l90, l99, l100, l110, l200, l240, l252, l300, l1024, l1M, nI_mul, nIle, nI_ltI, nIeq, nIx10, n10x, nI_add, nI_clamp, nIin_iff, nIinc, nIlt0, nIeq0, nIle0, nIle1, n1lt, n0lt, nIeq1, bz_0, Classical.not_not, gN.2.2.1]
    refine ⟨fun c => by omega, fun _ => ?_⟩
    refine ev_cvEn (S := cvF P tk pt S i t) (by omega) T'.wt (T'.ob hO) gN hk yR w1 (by omega) y200 (by omega) ?_
    rw [w3i]
    refine bk44_22 T'.wt (T'.ob hO) (T'.ob hN.1) ?_
    rw [bz_0, yR.2.1, l200, nI_ltI (by omega) (by omega)]
    have est : cvF P tk pt S i (t + 1) = cvSt P tk pt (cvF P tk pt S i t) i t := rfl
    refine ⟨fun c2 => ?_, fun c2 => ⟨fun c3 => ?_, fun c3 => ?_⟩⟩
    · refine bk44_52 T'.wt (T'.ob hO) (T'.ob hN.1) ?_
      simp (disch := omega) only [forall_eq, l2, l3, l4, l9, l10, l11, l12, l20, l30, l80, l90, l99, l100, l110, l200, l240, l252, l300, l1024, l1M, nI_mul, nIle, nI_ltI, nIeq, nIx10, n10x, nI_add, nI_clamp, nIin_iff, nIinc, nIlt0, nIeq0, nIle0, nIle1, n1lt, n0lt, nIeq1, bz_0, Classical.not_not]
      have e : cvF P tk pt S i (t + 1) = cvF P tk pt S i t := by
        rw [est]; unfold cvSt; rw [cif_f]
        intro z; rw [w3i] at z; exact c2 z.2
      refine ih m' b T' y2 (by rw [e]; exact y200) (by rw [e]; exact yR) ?_
      rw [hb]
      refine bz_cg ⟨fun ⟨u, h1, h2⟩ => ⟨u, by omega, h2⟩, fun ⟨u, h1, h2⟩ => ⟨u, ?_, h2⟩⟩
      by_cases e : u = t
      · subst e; exact absurd h2 c2
      · omega
    · have c2' := Classical.not_not.mp c2
      have e : cvF P tk pt S i (t + 1) = cvAdd P tk pt (cvF P tk pt S i t) i t := by
        rw [est]; unfold cvSt; rw [cif_t]
        exact ⟨y200, by rw [w3i]; exact c2'⟩
      refine ev_cvAdd (S := cvF P tk pt S i t) (by omega) T'.wt (T'.ob hO) gN hk hnc yR w1 (by omega) c3 (by omega) (by rw [w3i]; exact c2') ?_
      intro m2 T2 R2
      have T3 := T'.tr (T2.mono (fun _ h => h) (fun k f h => ⟨h.1, Or.inl h.2⟩))
      refine bk44_52 T3.wt (T3.ob hO) (T3.ob hN.1) ?_
      simp (disch := omega) only [forall_eq, l2, l3, l4, l9, l10, l11, l12, l20, l30, l80, l90, l99, l100, l110, l200, l240, l252, l300, l1024, l1M, nI_mul, nIle, nI_ltI, nIeq, nIx10, n10x, nI_add, nI_clamp, nIin_iff, nIinc, nIlt0, nIeq0, nIle0, nIle1, n1lt, n0lt, nIeq1, bz_0, Classical.not_not]
      refine ih m2 1 T3 (by rw [T2.nf (by unfold cvFl; omega)]; exact y2) (by rw [e]; show (cvF P tk pt S i t).1 + 1 ≤ 200; omega) (by rw [e]; exact R2) (bz_t ⟨t, Nat.lt_succ_self _, c2'⟩).symm
    · have c2' := Classical.not_not.mp c2
      rintro m2 rfl
      have T3 := T'.sF (v := 1) hO (f := 2) ⟨rfl, Or.inr rfl⟩ (by decide)
      have hq := hQ _ T3
      rw [bz_t ⟨t, ht, c2'⟩] at hq
      refine hq (Or.inl ⟨?_, iF_s⟩)
      have e1 : (cvF P tk pt S i (t + 1)).1 = 201 := by
        rw [est]; unfold cvSt
        rw [cif_t ⟨y200, by rw [w3i]; exact c2'⟩]
        show (cvF P tk pt S i t).1 + 1 = 201
        omega
      have e2 : ∀ j, (cvF P tk pt S i (t + 1 + j)).1 = 201 := by
        intro j
        induction j with
        | zero => exact e1
        | succ j ih2 =>
          show (cvSt P tk pt (cvF P tk pt S i (t + 1 + j)) i (t + 1 + j)).1 = 201
          unfold cvSt
          rw [cif_f (fun z => by omega)]
          exact ih2
      have := e2 (T - (t + 1))
      rw [show t + 1 + (T - (t + 1)) = T by omega] at this
      exact this
def cbA (c k : Nat) : Prop := k = 64 * c + 1 ∨ k = 64 * c + 2 ∨ k = 64 * c + 3 ∨ k = 64 * c + 4
def cbF (c k f : Nat) : Prop := k = c ∧ (f = 1 ∨ f = 2 ∨ f = 7)
theorem ev_build (hd : 4 ≤ d) (hT : mWT m) (hO : m.1 c = some (.inr 3) ∧ c ≠ 0) (hN : cNet m n P T tk pt fi) (hk : okNet P T tk pt fi) (hnc : n ≠ c) (hA : m.1 r = some (.inl (.int, lr)) ∧ r ≠ 0) (hl : 10 ≤ lr) (hrc : ∀ i, i < 64 → r ≠ 64 * c + i) (hr : ∀ p, p < 10 → m.2.2.1 r p = nI (mk p)) (hm : ∀ p, mk p ≤ 99)
    (hQ : ∀ m', mTo (cbA c) (cbF c) m m' → covC m' c P T tk (cvZ P T tk pt mk) → Q none m') : mEv d 41 [.ref c, .ref n, .ref r] m Q := by
  have hP10 := hk.1
  have hk2 := hk.2.1
  refine mEv.at (by omega) G41 (Nat.le_of_ble_eq_true rfl) ?_
  refine bk41_0 hT hO hN.1 hA (by omega) ?_
  simp only [c0c, c10c]
  simp (disch := omega) only [forall_eq, l2, l3, l4, l9, l10, l11, l12, l20, l30, l80, l90, l99, l100, l110, l200, l240, l252, l300, l1024, l1M, nI_mul, nIle, nI_ltI, nIeq, nIx10, n10x, nI_add, nI_clamp, nIin_iff, nIinc, nIlt0, nIeq0, nIle0, nIle1, n1lt, n0lt, nIeq1, bz_0, Classical.not_not, rdI_same, rdI_ne, rI_F, rI_J, rJ_F, rJ_I, rdJ_same, rdJ_ne, iF_s, iF_nf, iF_nk, iF_I, iF_J, up_s, up_n]
  refine ⟨⟨by decide, by decide, not_false, by omega, by omega⟩, by decide, by decide, ?_⟩
  rw [hN.2.1]
  have T0 : mTo (cbA c) (cbF c) m (mSetF (mSetI (mSetI (mSetI (mSetF (mSetF m c 2 (.int 0)) c 7 (.int (nI P))) (64 * c + 1) (va_cpy (m.2.2.1 r) (m.2.2.1 (64 * c + 1)) 0 0 10)) (64 * c + 2) (upd (m.2.2.1 (64 * c + 2)) 0 (-1))) (64 * c + 3) (upd (m.2.2.1 (64 * c + 3)) 0 (-1))) c 1 (.int 1)) := ((((((mTo.rf hT).sF hO ⟨rfl, by omega⟩ (by decide)).sF hO ⟨rfl, by omega⟩ (by decide)).sI (Or.inl rfl)).sI (Or.inr (Or.inl rfl))).sI (Or.inr (Or.inr (Or.inl rfl)))).sF hO ⟨rfl, Or.inl rfl⟩ (by decide)
  have x2 : iF (mSetF (mSetI (mSetI (mSetI (mSetF (mSetF m c 2 (.int 0)) c 7 (.int (nI P))) (64 * c + 1) (va_cpy (m.2.2.1 r) (m.2.2.1 (64 * c + 1)) 0 0 10)) (64 * c + 2) (upd (m.2.2.1 (64 * c + 2)) 0 (-1))) (64 * c + 3) (upd (m.2.2.1 (64 * c + 3)) 0 (-1))) c 1 (.int 1)) c 2 = 0 := by simp (disch := omega) only [forall_eq, l2, l3, l4, l9, l10, l11, l12, l20, l30, l80, l90, l99, l100, l110, l200, l240, l252, l300, l1024, l1M, nI_mul, nIle, nI_ltI, nIeq, nIx10, n10x, nI_add, nI_clamp, nIin_iff, nIinc, nIlt0, nIeq0, nIle0, nIle1, n1lt, n0lt, nIeq1, bz_0, Classical.not_not, rdI_same, rdI_ne, rI_F, rI_J, rJ_F, rJ_I, rdJ_same, rdJ_ne, iF_s, iF_nf, iF_nk, iF_I, iF_J, up_s, up_n]
  have x0 : cvR (mSetF (mSetI (mSetI (mSetI (mSetF (mSetF m c 2 (.int 0)) c 7 (.int (nI P))) (64 * c + 1) (va_cpy (m.2.2.1 r) (m.2.2.1 (64 * c + 1)) 0 0 10)) (64 * c + 2) (upd (m.2.2.1 (64 * c + 2)) 0 (-1))) (64 * c + 3) (upd (m.2.2.1 (64 * c + 3)) 0 (-1))) c 1 (.int 1)) c P (cvB P T tk pt mk 0) := by
    refine ⟨by simp (disch := omega) only [forall_eq, l2, l3, l4, l9, l10, l11, l12, l20, l30, l80, l90, l99, l100, l110, l200, l240, l252, l300, l1024, l1M, nI_mul, nIle, nI_ltI, nIeq, nIx10, n10x, nI_add, nI_clamp, nIin_iff, nIinc, nIlt0, nIeq0, nIle0, nIle1, n1lt, n0lt, nIeq1, bz_0, Classical.not_not, rdI_same, rdI_ne, rI_F, rI_J, rJ_F, rJ_I, rdJ_same, rdJ_ne, iF_s, iF_nf, iF_nk, iF_I, iF_J, up_s, up_n], by simp (disch := omega) only [forall_eq, l2, l3, l4, l9, l10, l11, l12, l20, l30, l80, l90, l99, l100, l110, l200, l240, l252, l300, l1024, l1M, nI_mul, nIle, nI_ltI, nIeq, nIx10, n10x, nI_add, nI_clamp, nIin_iff, nIinc, nIlt0, nIeq0, nIle0, nIle1, n1lt, n0lt, nIeq1, bz_0, Classical.not_not, rdI_same, rdI_ne, rI_F, rI_J, rJ_F, rJ_I, rdJ_same, rdJ_ne, iF_s, iF_nf, iF_nk, iF_I, iF_J, up_s, up_n]; rfl, ?_, ?_, ?_⟩
    · intro k hk' p hp
      have hk2 : k < 1 := hk'
      obtain rfl : k = 0 := by omega
      simp (disch := omega) only [forall_eq, l2, l3, l4, l9, l10, l11, l12, l20, l30, l80, l90, l99, l100, l110, l200, l240, l252, l300, l1024, l1M, nI_mul, nIle, nI_ltI, nIeq, nIx10, n10x, nI_add, nI_clamp, nIin_iff, nIinc, nIlt0, nIeq0, nIle0, nIle1, n1lt, n0lt, nIeq1, bz_0, Classical.not_not, rdI_same, rdI_ne, rI_F, rI_J, rJ_F, rJ_I, rdJ_same, rdJ_ne, iF_s, iF_nf, iF_nk, iF_I, iF_J, up_s, up_n]
      rw [cp_in (by omega) (by omega), show 0 + (0 * 10 + p - 0) = p by omega]
      exact hr p (by omega)
    · intro k hk'
      have hk2 : k < 1 := hk'
      obtain rfl : k = 0 := by omega
      simp (disch := omega) only [forall_eq, l2, l3, l4, l9, l10, l11, l12, l20, l30, l80, l90, l99, l100, l110, l200, l240, l252, l300, l1024, l1M, nI_mul, nIle, nI_ltI, nIeq, nIx10, n10x, nI_add, nI_clamp, nIin_iff, nIinc, nIlt0, nIeq0, nIle0, nIle1, n1lt, n0lt, nIeq1, bz_0, Classical.not_not, rdI_same, rdI_ne, rI_F, rI_J, rJ_F, rJ_I, rdJ_same, rdJ_ne, iF_s, iF_nf, iF_nk, iF_I, iF_J, up_s, up_n]
      rfl
    · intro k hk'
      have hk2 : k < 1 := hk'
      obtain rfl : k = 0 := by omega
      simp (disch := omega) only [forall_eq, l2, l3, l4, l9, l10, l11, l12, l20, l30, l80, l90, l99, l100, l110, l200, l240, l252, l300, l1024, l1M, nI_mul, nIle, nI_ltI, nIeq, nIx10, n10x, nI_add, nI_clamp, nIin_iff, nIinc, nIlt0, nIeq0, nIle0, nIle1, n1lt, n0lt, nIeq1, bz_0, Classical.not_not, rdI_same, rdI_ne, rI_F, rI_J, rJ_F, rJ_I, rdJ_same, rdJ_ne, iF_s, iF_nf, iF_nk, iF_I, iF_J, up_s, up_n]
      rfl
  generalize mSetF (mSetI (mSetI (mSetI (mSetF (mSetF m c 2 (.int 0)) c 7 (.int (nI P))) (64 * c + 1) (va_cpy (m.2.2.1 r) (m.2.2.1 (64 * c + 1)) 0 0 10)) (64 * c + 2) (upd (m.2.2.1 (64 * c + 2)) 0 (-1))) (64 * c + 3) (upd (m.2.2.1 (64 * c + 3)) 0 (-1))) c 1 (.int 1) = m0 at *
  have hB := cvB_all (P := P) (T := T) (tk := tk) (pt := pt) (mk := mk) hk hm
  have fin : ∀ i m', i ≤ 201 → mTo (cbA c) (cbF c) m m' → iF m' c 7 = nI P → ¬ (i < (cvB P T tk pt mk i).1 ∧ (cvB P T tk pt mk i).1 ≤ 200) → cvM m' c P (cvB P T tk pt mk i) → ((cvB P T tk pt mk i).1 ≤ 200 → ∀ k, k < i → k < (cvB P T tk pt mk i).1 → m'.2.2.1 (64 * c + 4) k = nI (endS P T tk (cvB P T tk pt mk i).2.1 k)) → Q none m' := by
    intro i m' hi T' z7 hs hM hE
    refine hQ m' T' ?_
    rw [cvZ_of hi hs]
    refine ⟨T'.ob hO, (hB i).1, z7, ?_⟩
    rcases hM with h | ⟨h1, h2, h3⟩
    · exact Or.inl h
    · exact Or.inr ⟨h1, h2, h3, fun k hk' => hE h1 k (by omega) hk'⟩
  refine upto (e := 200) (X := fun i => ∀ m', mTo (cbA c) (cbF c) m m' → iF m' c 7 = nI P → cvM m' c P (cvB P T tk pt mk i) → ((cvB P T tk pt mk i).1 ≤ 200 → ∀ k, k < i → k < (cvB P T tk pt mk i).1 → m'.2.2.1 (64 * c + 4) k = nI (endS P T tk (cvB P T tk pt mk i).2.1 k)) → mEs (d - 1) 41 _ g41 (46, [some (.ref c), some (.ref n), some (.ref r), some (.int (nI i))], [], m') Q) ?_ ?_ 0 (Nat.zero_le _) m0 T0 x0.1 (Or.inr ⟨by show 1 ≤ 200; omega, x2, x0⟩) (fun _ k hk' => absurd hk' (Nat.not_lt_zero _))
  · intro m' T' z7 hM hE
    refine bk41_46 T'.wt (T'.ob hO) (T'.ob hN.1) (T'.ob hA) ⟨fun _ => ?_, fun c => absurd (by decide) c⟩
    exact fin 200 m' (by omega) T' z7 (by omega) hM hE
  · intro i hi ih m' T' z7 hM hE
    refine bk41_46 T'.wt (T'.ob hO) (T'.ob hN.1) (T'.ob hA) ?_
    refine ⟨fun c => absurd ((nIle (a := 200) (by omega) (by omega)).mp c) (by omega), fun _ => ?_⟩
    rcases id hM with ⟨h1, h2⟩ | ⟨h1, h2, R1⟩
    · have q := fin i m' (by omega) T' z7 (by omega) hM hE
      rw [h2]
      exact ⟨fun _ => q, fun _ => ⟨fun _ => q, fun c => absurd (by decide) c⟩⟩
    · rw [h2, R1.2.1, nIle (by omega) (by omega)]
      refine ⟨fun c => fin i m' (by omega) T' z7 (by omega) hM hE, fun cN => ⟨fun c => absurd rfl c, fun _ => ?_⟩⟩
      have gN := hN.to T' (by unfold cbA; omega) (by unfold cbA; omega) (by unfold cbA; omega) (by unfold cbF; omega) (by unfold cbF; omega)
      refine ev_cvOld (S := cvB P T tk pt mk i) (by omega) T'.wt (T'.ob hO) R1 (hB i).1 hP10 (by omega) h1 ?_
      refine bk41_78 T'.wt (T'.ob hO) (T'.ob hN.1) (T'.ob hA) (ly0 := 200) (T'.wt.arr (T'.ob hO) 3 rfl (by decide)) ?_
      rw [bz_0]
      simp (disch := omega) only [forall_eq, l2, l3, l4, l9, l10, l11, l12, l20, l30, l80, l90, l99, l100, l110, l200, l240, l252, l300, l1024, l1M, nI_mul, nIle, nI_ltI, nIeq, nIx10, n10x, nI_add, nI_clamp, nIin_iff, nIinc, nIlt0, nIeq0, nIle0, nIle1, n1lt, n0lt, nIeq1, bz_0, Classical.not_not, rdI_same, rdI_ne, rI_F, rI_J, rJ_F, rJ_I, rdJ_same, rdJ_ne, iF_s, iF_nf, iF_nk, iF_I, iF_J, up_s, up_n]
      have hE' := hE h1
      refine ⟨fun co => ⟨hi, hi, fun c => absurd trivial c, fun _ => ?_⟩, fun co => ⟨hi, hi, fun _ => ?_, fun c => absurd c (by decide)⟩⟩
      · have T1 := T'.sI (k := 64 * c + 4) (g := upd (m'.2.2.1 (64 * c + 4)) i 0) (Or.inr (Or.inr (Or.inr rfl)))
        have t1 : mTo (fun k => k = 64 * c + 4) (fun _ _ => False) m' (mSetI m' (64 * c + 4) (upd (m'.2.2.1 (64 * c + 4)) i 0)) := (mTo.rf T'.wt).sI rfl
        have eB : cvB P T tk pt mk (i + 1) = cvF P tk pt (cvB P T tk pt mk i) i T := by
          show cif _ _ _ = _
          rw [cif_t ⟨by omega, h1, co⟩]
        refine ev_grow (S := cvB P T tk pt mk i) (by omega) T1.wt (T1.ob hO) (gN.to t1 (by omega) (by omega) (by omega) id id) hk hnc (R1.to t1 (by omega) (by omega) (by omega) id id) (hB i).1 (by omega) h1 (by rw [t1.nf id]; exact h2) ?_
        intro m2 T2 M2
        rw [← eB] at M2
        have T3 := T1.tr (T2.mono (fun k h => by unfold cvA at h; unfold cbA; omega) (fun k f h => by unfold cgF at h; unfold cbF; omega))
        have z7' : iF m2 c 7 = nI P := by rw [T2.nf (by unfold cgF; omega)]; exact z7
        have e4 : ∀ k, k < i → m2.2.2.1 (64 * c + 4) k = nI (endS P T tk (cvB P T tk pt mk (i + 1)).2.1 k) := by
          intro k hk'
          rw [T2.i (by unfold cvA; omega), rdI_same, up_n (by omega), hE' k hk' (by omega)]
          rw [endS_cg (fun j hj => ((hB i).2.2 j (by omega)).symm)]
        have eI : endS P T tk (cvB P T tk pt mk (i + 1)).2.1 i = cif (∃ t, t < T ∧ enS P tk ((cvB P T tk pt mk i).2.1 i) t) 0 1 := by
          rw [endS_cg (h' := (cvB P T tk pt mk i).2.1) (fun j hj => (hB i).2.2 j (by omega))]
          unfold endS
          rw [cif_f co]
        refine bk41_102 T3.wt (T3.ob hO) (T3.ob hN.1) (T3.ob hA) ?_
        rw [bz_n0]
        simp (disch := omega) only [forall_eq, l2, l3, l4, l9, l10, l11, l12, l20, l30, l80, l90, l99, l100, l110, l200, l240, l252, l300, l1024, l1M, nI_mul, nIle, nI_ltI, nIeq, nIx10, n10x, nI_add, nI_clamp, nIin_iff, nIinc, nIlt0, nIeq0, nIle0, nIle1, n1lt, n0lt, nIeq1, bz_0, Classical.not_not]
        refine ⟨fun c3 => ?_, fun c3 => ⟨hi, ?_⟩⟩
        · refine ih m2 T3 z7' M2 (fun _ k h1 h2 => ?_)
          by_cases e : k = i
          · subst e
            rw [eI, cif_t c3, T2.i (by unfold cvA; omega), rdI_same, up_s]
            rfl
          · exact e4 k (by omega)
        · have t3 : mTo (fun k => k = 64 * c + 4) (fun _ _ => False) m2 (mSetI m2 (64 * c + 4) (upd (m2.2.2.1 (64 * c + 4)) i 1)) := (mTo.rf T3.wt).sI rfl
          refine ih _ (T3.sI (Or.inr (Or.inr (Or.inr rfl)))) (by rw [t3.nf id]; exact z7') ?_ (fun _ k h1 h2 => ?_)
          · rcases M2 with ⟨a, b⟩ | ⟨a, b, e⟩
            · exact Or.inl ⟨a, by rw [t3.nf id]; exact b⟩
            · exact Or.inr ⟨a, by rw [t3.nf id]; exact b, e.to t3 (by omega) (by omega) (by omega) id id⟩
          · rw [rdI_same]
            by_cases e : k = i
            · subst e
              rw [eI, cif_f c3, up_s]
              rfl
            · rw [up_n e]; exact e4 k (by omega)
      · have t1 : mTo (fun k => k = 64 * c + 4) (fun _ _ => False) m' (mSetI m' (64 * c + 4) (upd (m'.2.2.1 (64 * c + 4)) i (nI 2))) := (mTo.rf T'.wt).sI rfl
        have eB : cvB P T tk pt mk (i + 1) = cvB P T tk pt mk i := by
          show cif _ _ _ = _
          rw [cif_f (fun z => z.2.2 co)]
        refine ih _ (T'.sI (Or.inr (Or.inr (Or.inr rfl)))) (by rw [t1.nf id]; exact z7) ?_ (fun _ k h1 h2 => ?_)
        · rw [eB]; exact Or.inr ⟨h1, by rw [t1.nf id]; exact h2, R1.to t1 (by omega) (by omega) (by omega) id id⟩
        · rw [rdI_same]
          rw [eB]
          by_cases e : k = i
          · subst e
            rw [up_s]
            unfold endS
            rw [cif_t co]
          · rw [up_n e]; exact hE' k (by omega) (by rw [eB] at h2; exact h2)
end CCV2
