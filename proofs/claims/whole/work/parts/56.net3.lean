/-! Net: kinds, clear. -/
theorem and_zero {a b : Nat} : a &&& b = 0 ↔ ∀ i, ¬ (a.testBit i = true ∧ b.testBit i = true) := by
  rw [tb_zero]
  constructor
  · intro h i q; exact h i (by rw [Nat.testBit_and, q.1, q.2]; rfl)
  · intro h i q
    rw [Nat.testBit_and, Bool.and_eq_true] at q
    exact h i q
def orS (f : Nat → Nat) : Nat → Nat
  | 0 => 0
  | t + 1 => orS f t ||| f t
theorem orS_tb (f : Nat → Nat) (i : Nat) : ∀ t, (orS f t).testBit i = true ↔ ∃ u, u < t ∧ (f u).testBit i = true := by
  intro t
  induction t with
  | zero => exact ⟨fun h => (by rw [show orS f 0 = 0 from rfl, Nat.zero_testBit] at h; exact absurd h (by decide)), fun ⟨u, hu, _⟩ => absurd hu (Nat.not_lt_zero _)⟩
  | succ t ih =>
    rw [show orS f (t + 1) = orS f t ||| f t from rfl, Nat.testBit_or, Bool.or_eq_true, ih]
    constructor
    · rintro (⟨u, hu, h⟩ | h)
      · exact ⟨u, by omega, h⟩
      · exact ⟨t, Nat.lt_succ_self _, h⟩
    · rintro ⟨u, hu, h⟩
      by_cases e : u = t
      · subst e; exact Or.inr h
      · exact Or.inl ⟨u, by omega, h⟩
theorem orS_and {f : Nat → Nat} {t x : Nat} : orS f t &&& x = 0 ↔ ∀ u, u < t → x &&& f u = 0 := by
  rw [and_zero]
  constructor
  · intro h u hu
    rw [and_zero]
    intro i q
    exact h i ⟨(orS_tb f i t).mpr ⟨u, hu, q.2⟩, q.1⟩
  · intro h i q
    obtain ⟨u, hu, z⟩ := (orS_tb f i t).mp q.1
    exact (and_zero.mp (h u hu)) i ⟨q.2, z⟩
theorem orS_lt {f : Nat → Nat} {k : Nat} (h : ∀ u, f u < 2 ^ k) : ∀ t, orS f t < 2 ^ k := by
  intro t
  induction t with
  | zero => exact Nat.pow_pos (by decide)
  | succ t ih => exact Nat.or_lt_two_pow ih (h t)
theorem plB_lt {P : Nat} (f : Nat → Nat) (h : P ≤ 10) : plB P f < 1024 := bs_small _ h
theorem and_lt10 {a b : Nat} (h : a < 1024) : a &&& b < 1024 := Nat.lt_of_le_of_lt Nat.and_le_left h
/-- what the net is -/
def kPlain (T : Nat) (tk pt : Nat → Nat → Nat) : Prop := ∀ j, j < T * 10 → tk (j / 10) (j % 10) ≤ 1 ∧ pt (j / 10) (j % 10) ≤ 1
def kPure (P T : Nat) (tk pt : Nat → Nat → Nat) : Prop := ∀ t, t < T → plB P (tk t) &&& plB P (pt t) = 0
def kMach (P T : Nat) (tk pt : Nat → Nat → Nat) : Prop := ∀ t, t < T → fb_sm (tk t) P = 1 ∧ fb_sm (pt t) P = 1
def kCirc (P T : Nat) (tk pt : Nat → Nat → Nat) : Prop := ∀ t, t < T → ∀ u, u < t → plB P (tk t) &&& plB P (tk u) = 0 ∧ plB P (pt t) &&& plB P (pt u) = 0
def kFree (P T : Nat) (tk : Nat → Nat → Nat) : Prop := ∀ t, t < T → ∀ u, u < t → plB P (tk t) &&& plB P (tk u) = 0 ∨ plB P (tk t) = plB P (tk u)
section NET3
variable {d n r lr P T : Nat} {tk pt : Nat → Nat → Nat} {fi mk : Nat → Nat} {m : mMem} {Q : Option Value → mMem → Prop}
theorem ev_isPlain (hd : 1 ≤ d) (hT : mWT m) (hN : cNet m n P T tk pt fi) (hk : okNet P T tk pt fi) (hQ : Q (some (.int (bz (kPlain T tk pt)))) m) : mEv d 111 [.ref n] m Q := by
  obtain ⟨k1, k2, k3, k4, k5, k6, k7⟩ := id hk
  refine mEv.at (by omega) G111 (Nat.le_of_ble_eq_true rfl) ?_
  refine bk111_0 hT hN.1 ?_
  refine upto (e := T * 10) (X := fun i => (∀ j, j < i → tk (j / 10) (j % 10) ≤ 1 ∧ pt (j / 10) (j % 10) ≤ 1) → mEs (d - 1) 111 _ g111 (2, [some (.ref n), some (.int (nI i))], [], m) Q) ?_ ?_ 0 (Nat.zero_le _) (fun q hq => absurd hq (Nat.not_lt_zero _))
  · intro hq
    refine bk111_2 hT hN.1 ?_
    rw [hN.2.2.1]
    simp (disch := omega) only [forall_eq, nIle, nI_ltI, nIeq, nIx10, n10x, nI_add, nI_clamp, nIin_iff, nIinc, nIlt0, nIeq0, nIle0, nIle1, n1lt, n0lt, nIeq1, bz_0, Classical.not_not]
    rw [bz_t (show kPlain T tk pt from hq)] at hQ
    exact ⟨fun _ => hQ, fun c => absurd (Nat.le_refl _) c⟩
  · intro i hi ih hq
    have e1 := hN.2.2.2.1 (i / 10) (by omega) (i % 10) (by omega)
    have e2 := hN.2.2.2.2.1 (i / 10) (by omega) (i % 10) (by omega)
    rw [show i / 10 * 10 + i % 10 = i by omega] at e1 e2
    have a1 := k3 (i / 10) (i % 10)
    have a2 := k4 (i / 10) (i % 10)
    refine bk111_2 hT hN.1 ?_
    rw [hN.2.2.1]
    simp (disch := omega) only [forall_eq, nIle, nI_ltI, nIeq, nIx10, n10x, nI_add, nI_clamp, nIin_iff, nIinc, nIlt0, nIeq0, nIle0, nIle1, n1lt, n0lt, nIeq1, bz_0, Classical.not_not, e1, e2]
    refine ⟨fun c => by omega, fun _ => ⟨by omega, fun c => ?_, fun c => ⟨by omega, fun c2 => ?_, fun c2 => ?_⟩⟩⟩
    · rw [bz_f (fun z => by have := (z i hi).1; omega)] at hQ; exact hQ
    · refine ih (fun j hj => ?_)
      by_cases e : j = i
      · subst e; exact ⟨by omega, c2⟩
      · exact hq j (by omega)
    · rw [bz_f (fun z => c2 (z i hi).2)] at hQ; exact hQ
theorem ev_isPure (hd : 3 ≤ d) (hT : mWT m) (hN : cNet m n P T tk pt fi) (hk : okNet P T tk pt fi) (hQ : Q (some (.int (bz (kPure P T tk pt)))) m) : mEv d 112 [.ref n] m Q := by
  obtain ⟨k1, k2, k3, k4, k5, k6, k7⟩ := id hk
  refine mEv.at (by omega) G112 (Nat.le_of_ble_eq_true rfl) ?_
  refine bk112_0 hT hN.1 ?_
  refine upto (e := T) (X := fun i => (∀ t, t < i → plB P (tk t) &&& plB P (pt t) = 0) → mEs (d - 1) 112 _ g112 (2, [some (.ref n), some (.int (nI i))], [], m) Q) ?_ ?_ 0 (Nat.zero_le _) (fun q hq => absurd hq (Nat.not_lt_zero _))
  · intro hq
    refine bk112_2 hT hN.1 ?_
    rw [hN.2.2.1]
    simp (disch := omega) only [forall_eq, nIle, nI_ltI, nIeq, nIx10, n10x, nI_add, nI_clamp, nIin_iff, nIinc, nIlt0, nIeq0, nIle0, nIle1, n1lt, n0lt, nIeq1, bz_0, Classical.not_not]
    rw [bz_t (show kPure P T tk pt from hq)] at hQ
    exact ⟨fun _ => hQ, fun c => absurd (Nat.le_refl _) c⟩
  · intro i hi ih hq
    refine bk112_2 hT hN.1 ?_
    rw [hN.2.2.1]
    simp (disch := omega) only [forall_eq, nIle, nI_ltI, nIeq, nIx10, n10x, nI_add, nI_clamp, nIin_iff, nIinc, nIlt0, nIeq0, nIle0, nIle1, n1lt, n0lt, nIeq1, bz_0, Classical.not_not]
    refine ⟨fun c => by omega, fun _ => ?_⟩
    refine ev_takenFrom (by omega) hT hN hk (by omega) ?_
    refine bk112_15 hT hN.1 ?_
    refine ev_putInto (by omega) hT hN hk (by omega) ?_
    have b1 := and_lt10 (b := plB P (pt i)) (plB_lt (tk i) k1)
    refine bk112_20 hT hN.1 ?_
    simp (disch := omega) only [forall_eq, nIle, nI_ltI, nIeq, nIx10, n10x, nI_add, nI_clamp, nIin_iff, nIinc, nIlt0, nIeq0, nIle0, nIle1, n1lt, n0lt, nIeq1, bz_0, Classical.not_not, and_n]
    refine ⟨fun c => ?_, fun c => ?_⟩
    · refine ih (fun j hj => ?_)
      by_cases e : j = i
      · subst e; exact c
      · exact hq j (by omega)
    · rw [bz_f (fun z => c (z i hi))] at hQ; exact hQ
theorem ev_isMachine (hd : 3 ≤ d) (hT : mWT m) (hN : cNet m n P T tk pt fi) (hk : okNet P T tk pt fi) (hQ : Q (some (.int (bz (kMach P T tk pt)))) m) : mEv d 113 [.ref n] m Q := by
  obtain ⟨k1, k2, k3, k4, k5, k6, k7⟩ := id hk
  refine mEv.at (by omega) G113 (Nat.le_of_ble_eq_true rfl) ?_
  refine bk113_0 hT hN.1 ?_
  refine upto (e := T) (X := fun i => (∀ t, t < i → fb_sm (tk t) P = 1 ∧ fb_sm (pt t) P = 1) → mEs (d - 1) 113 _ g113 (2, [some (.ref n), some (.int (nI i))], [], m) Q) ?_ ?_ 0 (Nat.zero_le _) (fun q hq => absurd hq (Nat.not_lt_zero _))
  · intro hq
    refine bk113_2 hT hN.1 ?_
    rw [hN.2.2.1]
    simp (disch := omega) only [forall_eq, nIle, nI_ltI, nIeq, nIx10, n10x, nI_add, nI_clamp, nIin_iff, nIinc, nIlt0, nIeq0, nIle0, nIle1, n1lt, n0lt, nIeq1, bz_0, Classical.not_not]
    rw [bz_t (show kMach P T tk pt from hq)] at hQ
    exact ⟨fun _ => hQ, fun c => absurd (Nat.le_refl _) c⟩
  · intro i hi ih hq
    have b1 := sm_le9 (k3 i) P
    have b2 := sm_le9 (k4 i) P
    refine bk113_2 hT hN.1 ?_
    rw [hN.2.2.1]
    simp (disch := omega) only [forall_eq, nIle, nI_ltI, nIeq, nIx10, n10x, nI_add, nI_clamp, nIin_iff, nIinc, nIlt0, nIeq0, nIle0, nIle1, n1lt, n0lt, nIeq1, bz_0, Classical.not_not]
    refine ⟨fun c => by omega, fun _ => ?_⟩
    refine ev_sumOf (by omega) hT hN hk (hT.arr hN.1 1 rfl (by decide)) (hN.2.2.2.1 i (by omega)) (hk.2.2.1 i) (by omega) ?_
    refine bk113_19 hT hN.1 ?_
    simp (disch := omega) only [forall_eq, nIle, nI_ltI, nIeq, nIx10, n10x, nI_add, nI_clamp, nIin_iff, nIinc, nIlt0, nIeq0, nIle0, nIle1, n1lt, n0lt, nIeq1, bz_0, Classical.not_not]
    refine ⟨fun c => ?_, fun c => ?_⟩
    · rw [bz_f (fun z => c (z i hi).1)] at hQ; exact hQ
    · refine ev_sumOf (by omega) hT hN hk (hT.arr hN.1 2 rfl (by decide)) (hN.2.2.2.2.1 i (by omega)) (hk.2.2.2.1 i) (by omega) ?_
      refine bk113_32 hT hN.1 ?_
      simp (disch := omega) only [forall_eq, nIle, nI_ltI, nIeq, nIx10, n10x, nI_add, nI_clamp, nIin_iff, nIinc, nIlt0, nIeq0, nIle0, nIle1, n1lt, n0lt, nIeq1, bz_0, Classical.not_not]
      refine ⟨fun c2 => ?_, fun c2 => ?_⟩
      · refine ih (fun j hj => ?_)
        by_cases e : j = i
        · subst e; exact ⟨c, c2⟩
        · exact hq j (by omega)
      · rw [bz_f (fun z => c2 (z i hi).2)] at hQ; exact hQ
theorem ev_isCircuit (hd : 3 ≤ d) (hT : mWT m) (hN : cNet m n P T tk pt fi) (hk : okNet P T tk pt fi) (hQ : Q (some (.int (bz (kCirc P T tk pt)))) m) : mEv d 115 [.ref n] m Q := by
  obtain ⟨k1, k2, k3, k4, k5, k6, k7⟩ := id hk
  refine mEv.at (by omega) G115 (Nat.le_of_ble_eq_true rfl) ?_
  refine bk115_0 hT hN.1 ?_
  refine upto (e := T) (X := fun i => (∀ t, t < i → ∀ u, u < t → plB P (tk t) &&& plB P (tk u) = 0 ∧ plB P (pt t) &&& plB P (pt u) = 0) → mEs (d - 1) 115 _ g115 (6, [some (.ref n), some (.int (nI (orS (fun t => plB P (tk t)) i))), some (.int (nI (orS (fun t => plB P (pt t)) i))), some (.int (nI i))], [], m) Q) ?_ ?_ 0 (Nat.zero_le _) (fun q hq => absurd hq (Nat.not_lt_zero _))
  · intro hq
    refine bk115_6 hT hN.1 ?_
    rw [hN.2.2.1]
    simp (disch := omega) only [forall_eq, nIle, nI_ltI, nIeq, nIx10, n10x, nI_add, nI_clamp, nIin_iff, nIinc, nIlt0, nIeq0, nIle0, nIle1, n1lt, n0lt, nIeq1, bz_0, Classical.not_not]
    rw [bz_t (show kCirc P T tk pt from hq)] at hQ
    exact ⟨fun _ => hQ, fun c => absurd (Nat.le_refl _) c⟩
  · intro i hi ih hq
    have b1 := orS_lt (k := 10) (fun u => plB_lt (tk u) k1) i
    have b2 := orS_lt (k := 10) (fun u => plB_lt (pt u) k1) i
    have b3 := and_lt10 (b := plB P (tk i)) b1
    have b4 := and_lt10 (b := plB P (pt i)) b2
    refine bk115_6 hT hN.1 ?_
    rw [hN.2.2.1]
    simp (disch := omega) only [forall_eq, nIle, nI_ltI, nIeq, nIx10, n10x, nI_add, nI_clamp, nIin_iff, nIinc, nIlt0, nIeq0, nIle0, nIle1, n1lt, n0lt, nIeq1, bz_0, Classical.not_not]
    refine ⟨fun c => by omega, fun _ => ?_⟩
    refine ev_takenFrom (by omega) hT hN hk (by omega) ?_
    refine bk115_20 hT hN.1 ?_
    simp (disch := omega) only [forall_eq, nIle, nI_ltI, nIeq, nIx10, n10x, nI_add, nI_clamp, nIin_iff, nIinc, nIlt0, nIeq0, nIle0, nIle1, n1lt, n0lt, nIeq1, bz_0, Classical.not_not, and_n]
    refine ⟨fun c => ?_, fun c => ?_⟩
    · rw [bz_f (fun z => c (orS_and.mpr (fun u hu => (z i hi u hu).1)))] at hQ; exact hQ
    refine ev_putInto (by omega) hT hN hk (by omega) ?_
    refine bk115_30 hT hN.1 ?_
    simp (disch := omega) only [forall_eq, nIle, nI_ltI, nIeq, nIx10, n10x, nI_add, nI_clamp, nIin_iff, nIinc, nIlt0, nIeq0, nIle0, nIle1, n1lt, n0lt, nIeq1, bz_0, Classical.not_not, and_n]
    refine ⟨fun c2 => ?_, fun c2 => ?_⟩
    · refine ev_takenFrom (by omega) hT hN hk (by omega) ?_
      refine bk115_42 hT hN.1 ?_
      simp (disch := omega) only [forall_eq, nIle, nI_ltI, nIeq, nIx10, n10x, nI_add, nI_clamp, nIin_iff, nIinc, nIlt0, nIeq0, nIle0, nIle1, n1lt, n0lt, nIeq1, bz_0, Classical.not_not, or_n]
      refine ev_putInto (by omega) hT hN hk (by omega) ?_
      refine bk115_50 hT hN.1 ?_
      simp (disch := omega) only [forall_eq, nIle, nI_ltI, nIeq, nIx10, n10x, nI_add, nI_clamp, nIin_iff, nIinc, nIlt0, nIeq0, nIle0, nIle1, n1lt, n0lt, nIeq1, bz_0, Classical.not_not, or_n]
      refine ih (fun t ht u hu => ?_)
      by_cases e : t = i
      · subst e; exact ⟨orS_and.mp c u hu, orS_and.mp c2 u hu⟩
      · exact hq t (by omega) u hu
    · rw [bz_f (fun z => c2 (orS_and.mpr (fun u hu => (z i hi u hu).2)))] at hQ; exact hQ
theorem ev_isFree (hd : 3 ≤ d) (hT : mWT m) (hN : cNet m n P T tk pt fi) (hk : okNet P T tk pt fi) (hQ : Q (some (.int (bz (kFree P T tk)))) m) : mEv d 116 [.ref n] m Q := by
  obtain ⟨k1, k2, k3, k4, k5, k6, k7⟩ := id hk
  refine mEv.at (by omega) G116 (Nat.le_of_ble_eq_true rfl) ?_
  refine bk116_0 hT hN.1 ?_
  refine upto (e := T) (X := fun i => ∀ o1 o2 o3, (∀ t, t < i → ∀ u, u < t → plB P (tk t) &&& plB P (tk u) = 0 ∨ plB P (tk t) = plB P (tk u)) → mEs (d - 1) 116 _ g116 (2, [some (.ref n), some (.int (nI i)), o1, o2, o3], [], m) Q) ?_ ?_ 0 (Nat.zero_le _) _ _ _ (fun q hq => absurd hq (Nat.not_lt_zero _))
  · intro o1 o2 o3 hq
    refine bk116_2 hT hN.1 ?_
    rw [hN.2.2.1]
    simp (disch := omega) only [forall_eq, nIle, nI_ltI, nIeq, nIx10, n10x, nI_add, nI_clamp, nIin_iff, nIinc, nIlt0, nIeq0, nIle0, nIle1, n1lt, n0lt, nIeq1, bz_0, Classical.not_not]
    rw [bz_t (show kFree P T tk from hq)] at hQ
    exact ⟨fun _ => hQ, fun c => absurd (Nat.le_refl _) c⟩
  · intro i hi ih o1 o2 o3 hq
    refine bk116_2 hT hN.1 ?_
    rw [hN.2.2.1]
    simp (disch := omega) only [forall_eq, nIle, nI_ltI, nIeq, nIx10, n10x, nI_add, nI_clamp, nIin_iff, nIinc, nIlt0, nIeq0, nIle0, nIle1, n1lt, n0lt, nIeq1, bz_0, Classical.not_not]
    refine ⟨fun c => by omega, fun _ => ?_⟩
    refine upto (e := i) (X := fun u => ∀ o2 o3, (∀ v, v < u → plB P (tk i) &&& plB P (tk v) = 0 ∨ plB P (tk i) = plB P (tk v)) → mEs (d - 1) 116 _ g116 (12, [some (.ref n), some (.int (nI i)), some (.int (nI u)), o2, o3], [], m) Q) ?_ ?_ 0 (Nat.zero_le _) _ _ (fun q hq => absurd hq (Nat.not_lt_zero _))
    · intro o2 o3 hq2
      refine bk116_12 hT hN.1 ?_
      simp (disch := omega) only [forall_eq, nIle, nI_ltI, nIeq, nIx10, n10x, nI_add, nI_clamp, nIin_iff, nIinc, nIlt0, nIeq0, nIle0, nIle1, n1lt, n0lt, nIeq1, bz_0, Classical.not_not]
      refine ⟨fun _ => ?_, fun c => absurd (Nat.le_refl _) c⟩
      refine ih _ _ _ (fun t ht u hu => ?_)
      by_cases e : t = i
      · subst e; exact hq2 u hu
      · exact hq t (by omega) u hu
    · intro u hu ih2 o2 o3 hq2
      refine bk116_12 hT hN.1 ?_
      simp (disch := omega) only [forall_eq, nIle, nI_ltI, nIeq, nIx10, n10x, nI_add, nI_clamp, nIin_iff, nIinc, nIlt0, nIeq0, nIle0, nIle1, n1lt, n0lt, nIeq1, bz_0, Classical.not_not]
      refine ⟨fun c => by omega, fun _ => ?_⟩
      refine ev_takenFrom (by omega) hT hN hk (by omega) ?_
      refine bk116_22 hT hN.1 ?_
      refine ev_takenFrom (by omega) hT hN hk (by omega) ?_
      have b1 := plB_lt (tk i) k1
      have b2 := plB_lt (tk u) k1
      have b3 := and_lt10 (b := plB P (tk u)) b1
      refine bk116_28 hT hN.1 ?_
      simp (disch := omega) only [forall_eq, nIle, nI_ltI, nIeq, nIx10, n10x, nI_add, nI_clamp, nIin_iff, nIinc, nIlt0, nIeq0, nIle0, nIle1, n1lt, n0lt, nIeq1, bz_0, Classical.not_not, and_n]
      refine ⟨fun c => ?_, fun c => ⟨fun c2 => ?_, fun c2 => ?_⟩⟩
      · refine ih2 _ _ (fun v hv => ?_)
        by_cases e : v = u
        · subst e; exact Or.inl c
        · exact hq2 v (by omega)
      · refine ih2 _ _ (fun v hv => ?_)
        by_cases e : v = u
        · subst e; exact Or.inr c2
        · exact hq2 v (by omega)
      · rw [bz_f (fun z => (z i hi u hu).elim c c2)] at hQ; exact hQ
theorem ev_clear (hd : 2 ≤ d) (hT : mWT m) (hO : m.1 n = some (.inr 2) ∧ n ≠ 0) (hQ : ∀ m', mTo (fun k => k = 64 * n + 1 ∨ k = 64 * n + 2 ∨ k = 64 * n + 3) (fun k f => k = n ∧ (f = 0 ∨ f = 1)) m m' → iF m' n 0 = 0 → iF m' n 1 = 0 → (∀ i, i < 10 → m'.2.2.1 (64 * n + 1) i = 0) → (∀ i, i < 110 → m'.2.2.1 (64 * n + 2) i = 0) → (∀ i, i < 110 → m'.2.2.1 (64 * n + 3) i = 0) → Q none m') : mEv d 10 [.ref n] m Q := by
  refine mEv.at (by omega) G10 (Nat.le_of_ble_eq_true rfl) ?_
  refine bk10_0 hT hO ?_
  rintro m1 rfl m2 rfl
  have t0 : mTo (fun k => k = 64 * n + 1 ∨ k = 64 * n + 2 ∨ k = 64 * n + 3) (fun k f => k = n ∧ (f = 0 ∨ f = 1)) m (mSetF (mSetF m n 0 (.int 0)) n 1 (.int 0)) := ((mTo.rf hT).sF hO ⟨rfl, Or.inl rfl⟩ (by decide)).sF hO ⟨rfl, Or.inr rfl⟩ (by decide)
  have f0 : iF (mSetF (mSetF m n 0 (.int 0)) n 1 (.int 0)) n 0 = 0 := by rw [iF_nf (by decide), iF_s]
  have f1 : iF (mSetF (mSetF m n 0 (.int 0)) n 1 (.int 0)) n 1 = 0 := by rw [iF_s]
  generalize mSetF (mSetF m n 0 (.int 0)) n 1 (.int 0) = m1 at *
  refine ev_fill (by omega) t0.wt (len := 10) (t0.wt.arr (t0.ob hO) 0 rfl (by decide)) (by omega) ?_
  have t1 := t0.sI (k := 64 * n + 1) (g := filled (m1.2.2.1 (64 * n + 1)) 0 10 0) (Or.inl rfl)
  refine bk10_18 t1.wt (t1.ob hO) ?_
  refine ev_fill (by omega) t1.wt (len := 110) (t1.wt.arr (t1.ob hO) 1 rfl (by decide)) (by omega) ?_
  rw [rdI_ne (by omega)]
  have t2 := t1.sI (k := 64 * n + 2) (g := filled (m1.2.2.1 (64 * n + 2)) 0 110 0) (Or.inr (Or.inl rfl))
  refine bk10_26 t2.wt (t2.ob hO) ?_
  refine ev_fill (by omega) t2.wt (len := 110) (t2.wt.arr (t2.ob hO) 2 rfl (by decide)) (by omega) ?_
  rw [rdI_ne (by omega), rdI_ne (by omega)]
  have t3 := t2.sI (k := 64 * n + 3) (g := filled (m1.2.2.1 (64 * n + 3)) 0 110 0) (Or.inr (Or.inr rfl))
  refine bk10_34 t3.wt (t3.ob hO) (hQ _ t3 f0 f1 ?_ ?_ ?_)
  · intro i hi
    rw [rdI_ne (by omega), rdI_ne (by omega), rdI_same]
    exact filled_in (Nat.zero_le _) hi
  · intro i hi
    rw [rdI_ne (by omega), rdI_same]
    exact filled_in (Nat.zero_le _) hi
  · intro i hi
    rw [rdI_same]
    exact filled_in (Nat.zero_le _) hi
end NET3
