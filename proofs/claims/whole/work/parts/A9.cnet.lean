/-! The class: sign(), end(), net(). -/
def cnA (x n2 k : Nat) : Prop := pA n2 k ∨ k = 64 * x + 4 ∨ k = 64 * x + 5
def cnF0 (s n2 k f : Nat) : Prop := pF s n2 k f ∨ (k = s ∧ f = 0)
def cnF (x s n2 k f : Nat) : Prop := cnF0 s n2 k f ∨ (k = x ∧ (f = 1 ∨ f = 2 ∨ f = 6 ∨ f = 7 ∨ f = 8))
section CNET
variable {d x s n n2 len : Nat} {tx : Nat → Nat} {m : mMem} {Q : Option Value → mMem → Prop}
theorem ev_signC {k : Nat} (hd : 2 ≤ d) (hT : mWT m) (hO : m.1 x = some (.inr 0) ∧ x ≠ 0) (hs : m.2.1 x 0 = .ref s) (hX : cTxt m s tx len) (hk : k < 2 ^ 32)
    (hQ1 : len + 4 ≤ 240 → ∀ m', mTo (fun j => j = 64 * s + 1) (fun j f => j = s ∧ f = 0) m m' → cTxt m' s (txA tx len k) (len + 4) → Q (some (.int (nI (len + 4)))) m')
    (hQ2 : ¬ len + 4 ≤ 240 → Q (some (.int (-1))) m) : mEv d 4 [.ref x, .int (nI k)] m Q := by
  refine mEv.at (by omega) G4 (Nat.le_of_ble_eq_true rfl) ?_
  refine bk4_0 hT hO ⟨s, hs, hX.1, ?_⟩
  refine ev_addFour (by omega) hT hX hk (fun h m' T' X' => ?_) (fun h => ?_)
  · exact bk4_8 T'.wt (T'.ob hO) (hQ1 h m' T' X')
  · exact bk4_8 hT hO (hQ2 h)
theorem ev_endC {y : Int32} (hd : 2 ≤ d) (hT : mWT m) (hO : m.1 x = some (.inr 0) ∧ x ≠ 0) (hs : m.2.1 x 0 = .ref s) (hX : cTxt m s tx len)
    (hQ1 : ∀ j, j ≤ len → y = nI j → Q (some (.int 1)) (mSetF m s 0 (.int (nI j))))
    (hQ2 : (¬ ∃ j, j ≤ len ∧ y = nI j) → Q (some (.int 0)) m) : mEv d 6 [.ref x, .int y] m Q := by
  refine mEv.at (by omega) G6 (Nat.le_of_ble_eq_true rfl) ?_
  refine bk6_0 hT hO ⟨s, hs, hX.1, ?_⟩
  refine ev_shorten (by omega) hT hX (fun j h1 h2 => ?_) (fun h => ?_)
  · have T' := (mTo.rf (A := fun _ => False) (F := fun k f => k = s ∧ f = 0) hT).sF (v := nI j) hX.1 (f := 0) ⟨rfl, rfl⟩ (by decide)
    exact bk6_8 T'.wt (T'.ob hO) ⟨Or.inr rfl, hQ1 j h1 h2⟩
  · exact bk6_8 hT hO ⟨Or.inl rfl, hQ2 h⟩
theorem ev_netC (hd : 8 ≤ d) (hT : mWT m) (hO : m.1 x = some (.inr 0) ∧ x ≠ 0) (hs : m.2.1 x 0 = .ref s) (hX : cTxt m s tx len) (h1 : m.2.1 x 1 = .ref n) (h2 : m.2.1 x 2 = .ref n2) (hN1 : m.1 n = some (.inr 2) ∧ n ≠ 0) (hN2 : m.1 n2 = some (.inr 2) ∧ n2 ≠ 0) (hx4 : ∀ i, i < 64 → 64 * x + 4 ≠ 64 * n2 + i ∧ 64 * x + 5 ≠ 64 * n2 + i)
    (hQ1 : ∀ m' f, rnet tx len = .inl f → mTo (pA n2) (cnF0 s n2) m m' → iF m' s 0 = 0 → Q (some (.int (-1000 - nI f))) m')
    (hQ2 : ∀ m' st, rnet tx len = .inr st → okS st → 0 < st.1 → mTo (cnA x n2) (cnF x s n2) m m' → m'.2.1 x 1 = .ref n2 → m'.2.1 x 2 = .ref n → iF m' s 0 = 0 → pN m' n2 st → (∀ p, p < 10 → m'.2.2.1 (64 * x + 4) p = nI (st.2.2.2.2 p)) → (∀ p, p < 10 → m'.2.2.1 (64 * x + 5) p = 0) → iF m' x 6 = 0 → iF m' x 7 = iF m x 7 + 1 → iF m' x 8 = iF m x 8 + 1 → Q (some (.int (nI st.2.1))) m') : mEv d 8 [.ref x] m Q := by
  have hsn : s ≠ n2 := fun e => by have := hX.1.1; rw [e, hN2.1] at this; cases this
  have hxs : x ≠ s := fun e => by have := hO.1; rw [e, hX.1.1] at this; cases this
  have hxn : x ≠ n2 := fun e => by have := hO.1; rw [e, hN2.1] at this; cases this
  refine mEv.at (by omega) G8 (Nat.le_of_ble_eq_true rfl) ?_
  refine bk8_0 hT hO ⟨s, hs, hX.1, n2, h2, hN2, ?_⟩
  refine ev_readInto (by omega) hT hX hN2 hsn ?_
  intro m1 v T1 hv
  have pf : ∀ f, ¬ pF s n2 x f := fun f z => by unfold pF at z; omega
  have sa : ¬ pA n2 (64 * s + 1) := fun z => by unfold pA at z; omega
  have hX1 : cTxt m1 s tx len := hX.to T1 sa (fun z => by unfold pF at z; omega)
  refine bk8_11 T1.wt (T1.ob hO) ⟨s, by rw [T1.fl (pf 0)]; exact hs, T1.ob hX.1, ?_⟩
  refine ev_shorten (by omega) T1.wt hX1 ?_ (fun h => absurd ⟨0, Nat.zero_le _, rfl⟩ h)
  intro j hj e
  have ej : j = 0 := ((nIeq (by omega) (by have := hX.2.2.2.1; omega)).mp (show nI 0 = nI j from e)).symm
  subst ej
  have T2 : mTo (pA n2) (cnF0 s n2) m (mSetF m1 s 0 (.int (nI 0))) := (T1.mono (fun _ z => z) (fun _ _ z => Or.inl z)).sF hX.1 (Or.inr ⟨rfl, rfl⟩) (by decide)
  have xf : ∀ f, ¬ cnF0 s n2 x f := fun f z => by unfold cnF0 pF at z; omega
  refine bk8_20 T2.wt (T2.ob hO) (by omega) ?_
  have z0 : iF (mSetF m1 s 0 (.int (nI 0))) s 0 = 0 := iF_s
  have g := rnet_good (tx := tx) (len := len)
  cases hR : rnet tx len with
  | inl f =>
    rw [hR] at hv g
    have hf : f ≤ len := g
    have h240 := hX.2.2.2.1
    have e2 : v = nI f := hv
    rw [e2]
    exact ⟨fun c => absurd c (neg1_ne (by omega)), fun _ => hQ1 _ f hR T2 z0⟩
  | inr st =>
    rw [hR] at hv g
    obtain ⟨g1, g2⟩ : okS st ∧ 0 < st.1 := g
    obtain ⟨e2, pn⟩ : v = -1 ∧ pN m1 n2 st := hv
    refine ⟨fun _ => ?_, fun c => absurd e2 c⟩
    refine ⟨n, by rw [T2.fl (xf 1)]; exact h1, T2.ob hN1, n2, by rw [T2.fl (xf 2)]; exact h2, T2.ob hN2, ?_⟩
    rintro m5 rfl m7 rfl
    have T3 : mTo (cnA x n2) (cnF x s n2) m (mSetF (mSetF (mSetF m1 s 0 (.int (nI 0))) x 1 (.ref n2)) x 2 (.ref n)) := (((T2.mono (fun _ z => Or.inl z) (fun _ _ z => Or.inl z)).sR hO (Or.inr ⟨rfl, by omega⟩) (by decide) (by decide)).sR hO (Or.inr ⟨rfl, by omega⟩) (by decide) (by decide))
    have f1 : (mSetF (mSetF (mSetF m1 s 0 (.int (nI 0))) x 1 (.ref n2)) x 2 (.ref n)).2.1 x 1 = .ref n2 := by rw [rdF_ne (by decide), rdF_same]
    refine ⟨n2, f1, T3.ob hN2, ⟨by decide, by decide, by decide, by decide, by decide⟩, ?_⟩
    rintro m11 rfl
    have T4 := T3.sI (g := va_cpy ((mSetF (mSetF (mSetF m1 s 0 (.int (nI 0))) x 1 (.ref n2)) x 2 (.ref n)).2.2.1 (64 * n2 + 1)) ((mSetF (mSetF (mSetF m1 s 0 (.int (nI 0))) x 1 (.ref n2)) x 2 (.ref n)).2.2.1 (64 * x + 4)) (0 : Int32).toNatClampNeg (0 : Int32).toNatClampNeg (10 : Int32).toNatClampNeg) (k := 64 * x + 4) (Or.inr (Or.inl rfl))
    refine ev_fill (by omega) T4.wt (T4.wt.arr (T4.ob hO) 1 rfl (by decide)) (by decide) ?_
    have T5 := T4.sI (g := filled ((mSetI (mSetF (mSetF (mSetF m1 s 0 (.int (nI 0))) x 1 (.ref n2)) x 2 (.ref n)) (64 * x + 4) (va_cpy ((mSetF (mSetF (mSetF m1 s 0 (.int (nI 0))) x 1 (.ref n2)) x 2 (.ref n)).2.2.1 (64 * n2 + 1)) ((mSetF (mSetF (mSetF m1 s 0 (.int (nI 0))) x 1 (.ref n2)) x 2 (.ref n)).2.2.1 (64 * x + 4)) (0 : Int32).toNatClampNeg (0 : Int32).toNatClampNeg (10 : Int32).toNatClampNeg)).2.2.1 (64 * x + 5)) 0 10 0) (k := 64 * x + 5) (Or.inr (Or.inr rfl))
    refine bk8_76 T5.wt (T5.ob hO) (T5.ob hN1) ?_
    rintro m12 rfl m13 rfl m14 rfl
    have T6 := ((T5.sF (v := 0) hO (f := 6) (Or.inr ⟨rfl, by omega⟩) (by decide)).sF (v := iF m x 7 + 1) hO (f := 7) (Or.inr ⟨rfl, by omega⟩) (by decide)).sF (v := iF m x 8 + 1) hO (f := 8) (Or.inr ⟨rfl, by omega⟩) (by decide)
    have e7 : iF m1 x 7 = iF m x 7 := T1.nf (pf 7)
    have e8 : iF m1 x 8 = iF m x 8 := T1.nf (pf 8)
    obtain ⟨p1, p2, p3, p4, p5⟩ := pn
    have q0 := hx4 0 (by omega)
    have q1 := hx4 1 (by omega)
    have q2 := hx4 2 (by omega)
    have q3 := hx4 3 (by omega)
    simp (disch := omega) only [iF_s, iF_nf, iF_nk, iF_I, e7, e8]
    refine ⟨n2, ?_, T6.ob hN2, ?_⟩
    · rw [rdF_ne (by decide), rdF_ne (by decide), rdF_ne (by decide), fF_I, fF_I]; exact f1
    · rw [iF_nk (Ne.symm hxn), iF_nk (Ne.symm hsn), p2]
      refine hQ2 _ st hR g1 g2 T6 ?_ ?_ ?_ ⟨?_, ?_, ?_, ?_, ?_⟩ ?_ ?_ ?_ ?_ ?_
      · rw [rdF_ne (by decide), rdF_ne (by decide), rdF_ne (by decide), fF_I, fF_I]; exact f1
      · rw [rdF_ne (by decide), rdF_ne (by decide), rdF_ne (by decide), fF_I, fF_I, rdF_same]
      · simp (disch := omega) only [iF_s, iF_nf, iF_nk, iF_I]; rfl
      · simp (disch := omega) only [iF_s, iF_nf, iF_nk, iF_I]; exact p1
      · simp (disch := omega) only [iF_s, iF_nf, iF_nk, iF_I]; exact p2
      · intro i hi
        simp (disch := omega) only [rI_F, rdI_same, rdI_ne]
        exact p3 i hi
      · intro i hi
        simp (disch := omega) only [rI_F, rdI_same, rdI_ne]
        exact p4 i hi
      · intro i hi
        simp (disch := omega) only [rI_F, rdI_same, rdI_ne]
        exact p5 i hi
      · intro p hp
        simp (disch := omega) only [rI_F, rdI_same, rdI_ne]
        rw [cp_in (by rw [c0c]; omega) (by rw [c0c, c10c]; omega), c0c, Nat.zero_add, Nat.sub_zero]
        exact p5 p hp
      · intro p hp
        simp (disch := omega) only [rI_F, rdI_same, rdI_ne]
        exact if_pos ⟨Nat.zero_le _, hp⟩
      · simp (disch := omega) only [iF_s, iF_nf, iF_nk, iF_I]
      · simp (disch := omega) only [iF_s, iF_nf, iF_nk, iF_I]
      · simp (disch := omega) only [iF_s, iF_nf, iF_nk, iF_I]
end CNET
