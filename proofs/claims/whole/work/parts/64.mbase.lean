/-! The model: small contracts. -/
/-- whether a transition can fire by a row, with a most; 1000000 is without end -/
def canS (P : Nat) (tk pt : Nat → Nat → Nat) (v : Nat → Nat) (most t : Nat) : Prop := ∀ p, p < P → tk t p ≤ v p ∧ (v p = 1000000 ∨ v p - tk t p + pt t p ≤ most)
theorem canS_s {P : Nat} {tk pt : Nat → Nat → Nat} {v : Nat → Nat} {most t : Nat} : canS (P + 1) tk pt v most t ↔ canS P tk pt v most t ∧ tk t P ≤ v P ∧ (v P = 1000000 ∨ v P - tk t P + pt t P ≤ most) := by
  constructor
  · intro h; exact ⟨fun p hp => h p (by omega), h P (Nat.lt_succ_self _)⟩
  · rintro ⟨h1, h2⟩ p hp
    by_cases e : p = P
    · subst e; exact h2
    · exact h1 p (by omega)
theorem canS_99 {P : Nat} {tk pt : Nat → Nat → Nat} {v : Nat → Nat} {t : Nat} (hv : ∀ p, v p ≤ 99) : canS P tk pt v 99 t ↔ rdyS P tk pt v t := by
  constructor
  · intro h p hp
    have := h p hp; have := hv p
    omega
  · intro h p hp
    have := h p hp
    omega
/-- acts that can be undone: one more -/
def pAc (ac : Nat → Nat → Nat) (na : Nat) (mk : Nat → Nat) (a p : Nat) : Nat := if na = 10 then (if a < 9 then ac (a + 1) p else mk p) else (if a = na then mk p else ac a p)
def pNa (na : Nat) : Nat := if na = 10 then 10 else na + 1
/-- a marking behind a firing -/
def frd (tk pt : Nat → Nat → Nat) (mk : Nat → Nat) (t p : Nat) : Nat := mk p - tk t p + pt t p
section MB
variable {d o P T r lr : Nat} {tk pt : Nat → Nat → Nat} {fi mk : Nat → Nat} {m : mMem} {Q : Option Value → mMem → Prop}
theorem mNet.to {A : Nat → Prop} {F : Nat → Nat → Prop} {m' : mMem} (h : mNet m o P T tk pt) (ht : mTo A F m m') (h2 : ¬ A (64 * o + 2)) (h3 : ¬ A (64 * o + 3)) (h4 : ¬ F o 6) (h5 : ¬ F o 7) : mNet m' o P T tk pt := by
  obtain ⟨hP, hTr, htk, hpt⟩ := h
  refine ⟨by rw [ht.nf h4, hP], by rw [ht.nf h5, hTr], ?_, ?_⟩
  · rw [ht.i h2]; exact htk
  · rw [ht.i h3]; exact hpt
theorem mNet.sI (h : mNet m o P T tk pt) {f : Nat → Int32} (h2 : r ≠ 64 * o + 2) (h3 : r ≠ 64 * o + 3) : mNet (mSetI m r f) o P T tk pt := by
  obtain ⟨hP, hTr, htk, hpt⟩ := h
  refine ⟨hP, hTr, ?_, ?_⟩
  · rw [rdI_ne h2.symm]; exact htk
  · rw [rdI_ne h3.symm]; exact hpt
theorem mNet.sF (h : mNet m o P T tk pt) {k f : Nat} {v : Value} (h2 : f ≠ 6) (h3 : f ≠ 7) : mNet (mSetF m k f v) o P T tk pt := by
  obtain ⟨hP, hTr, htk, hpt⟩ := h
  exact ⟨by rw [iF_nf h2.symm, hP], by rw [iF_nf h3.symm, hTr], htk, hpt⟩
theorem mNet.sJ (h : mNet m o P T tk pt) {k : Nat} {f : Nat → Int64} : mNet (mSetJ m k f) o P T tk pt := h
theorem ev_mPl (hd : 2 ≤ d) (hT : mWT m) (hO : m.1 o = some (.inr 8) ∧ o ≠ 0) (hN : mNet m o P T tk pt) (hk : P ≤ 10) (x : Int32) (hQ : Q (some (.int (bz (∃ j, j < P ∧ x = nI j)))) m) : mEv d 161 [.ref o, .int x] m Q := by
  refine mEv.at (by omega) G161 (Nat.le_of_ble_eq_true rfl) ?_
  refine bk161_0 hT hO ?_
  refine ev_in (by omega) hT ?_
  rw [hN.1, bz_cg (inP_iff (by omega))]
  exact bk161_13 hT hO ⟨bz_01 _, hQ⟩
theorem ev_mTr (hd : 2 ≤ d) (hT : mWT m) (hO : m.1 o = some (.inr 8) ∧ o ≠ 0) (hN : mNet m o P T tk pt) (hk : T ≤ 10) (x : Int32) (hQ : Q (some (.int (bz (∃ j, j < T ∧ x = nI j)))) m) : mEv d 160 [.ref o, .int x] m Q := by
  refine mEv.at (by omega) G160 (Nat.le_of_ble_eq_true rfl) ?_
  refine bk160_0 hT hO ?_
  refine ev_in (by omega) hT ?_
  rw [hN.2.1, bz_cg (inP_iff (by omega))]
  exact bk160_13 hT hO ⟨bz_01 _, hQ⟩
theorem ev_tkM {t p : Nat} (hd : 1 ≤ d) (hT : mWT m) (hO : m.1 o = some (.inr 8) ∧ o ≠ 0) (hN : mNet m o P T tk pt) (ht : t < 10) (hp : p < 10) (hQ : Q (some (.int (nI (tk t p)))) m) : mEv d 162 [.ref o, .int (nI t), .int (nI p)] m Q := by
  refine mEv.at (by omega) G162 (Nat.le_of_ble_eq_true rfl) ?_
  refine bk162_0 hT hO ?_
  simp (disch := omega) only [forall_eq, nIle, nI_ltI, nIeq, nIx10, n10x, nI_add, nI_clamp, nIin_iff, nIinc, nIlt0, nIeq0, nIle0, nIle1, n1lt, n0lt, nIeq1, bz_0, Classical.not_not]
  rw [hN.2.2.1 t ht p hp]
  exact ⟨by omega, hQ⟩
theorem ev_ptM {t p : Nat} (hd : 1 ≤ d) (hT : mWT m) (hO : m.1 o = some (.inr 8) ∧ o ≠ 0) (hN : mNet m o P T tk pt) (ht : t < 10) (hp : p < 10) (hQ : Q (some (.int (nI (pt t p)))) m) : mEv d 163 [.ref o, .int (nI t), .int (nI p)] m Q := by
  refine mEv.at (by omega) G163 (Nat.le_of_ble_eq_true rfl) ?_
  refine bk163_0 hT hO ?_
  simp (disch := omega) only [forall_eq, nIle, nI_ltI, nIeq, nIx10, n10x, nI_add, nI_clamp, nIin_iff, nIinc, nIlt0, nIeq0, nIle0, nIle1, n1lt, n0lt, nIeq1, bz_0, Classical.not_not]
  rw [hN.2.2.2 t ht p hp]
  exact ⟨by omega, hQ⟩
theorem ev_canM {base most t : Nat} {v : Nat → Nat} (hd : 2 ≤ d) (hT : mWT m) (hO : m.1 o = some (.inr 8) ∧ o ≠ 0) (hN : mNet m o P T tk pt) (hk : okNet P T tk pt fi) (hA : m.1 r = some (.inl (.int, lr)) ∧ r ≠ 0) (hl : base + 10 ≤ lr) (hlr : lr < 2 ^ 31) (hv : ∀ p, p < P → m.2.2.1 r (base + p) = nI (v p)) (hv2 : ∀ p, v p ≤ 1000000) (hm : most ≤ 1000000) (ht : t < 10) (hQ : Q (some (.int (bz (canS P tk pt v most t)))) m) : mEv d 167 [.ref o, .ref r, .int (nI base), .int (nI t), .int (nI most)] m Q := by
  obtain ⟨n1, n2, n3, n4⟩ := id hN
  obtain ⟨k1, k2, k3, k4, k5, k6, k7⟩ := id hk
  refine mEv.at (by omega) G167 (Nat.le_of_ble_eq_true rfl) ?_
  refine bk167_0 hT hO hA ?_
  refine upto (e := P) (X := fun p => ∀ (o7 : Option Value) (b : Int32), b = bz (canS p tk pt v most t) → mEs (d - 1) 167 _ g167 (6, [some (.ref o), some (.ref r), some (.int (nI base)), some (.int (nI t)), some (.int (nI most)), some (.int b), some (.int (nI p)), o7], [], m) Q) ?_ ?_ 0 (Nat.zero_le _) _ _ (bz_t (fun q hq => absurd hq (Nat.not_lt_zero _))).symm
  · intro o7 b hb
    refine bk167_6 hT hO hA ?_
    simp (disch := omega) only [forall_eq, nIle, nI_ltI, nIeq, nIx10, n10x, nI_add, nI_clamp, nIin_iff, nIinc, nIlt0, nIeq0, nIle0, nIle1, n1lt, n0lt, nIeq1, bz_0, Classical.not_not, n1]
    exact ⟨fun _ => ⟨by rw [hb]; exact bz_01 _, by rw [hb]; exact hQ⟩, fun c => absurd (Nat.le_refl _) c⟩
  · intro p hp ih o7 b hb
    have a1 := hv2 p
    have a2 := k3 t p
    have a3 := k4 t p
    refine bk167_6 hT hO hA ?_
    simp (disch := omega) only [forall_eq, nIle, nI_ltI, nIeq, nIx10, n10x, nI_add, nI_clamp, nIin_iff, nIinc, nIlt0, nIeq0, nIle0, nIle1, n1lt, n0lt, nIeq1, bz_0, Classical.not_not, n1, hv p hp]
    refine ⟨fun c => by omega, fun _ => ⟨by omega, fun c => ?_, fun c => ?_⟩⟩
    · refine ih _ _ ?_
      rw [hb, bz_0] at c
      rw [bz_f]
      intro z; exact c (canS_s.mp z).1
    · rw [hb, bz_0, Classical.not_not] at c
      have fin : ∀ (o7 : Option Value) (b : Int32) (C : Prop), b = bz C → (C ↔ tk t p ≤ v p ∧ (v p = 1000000 ∨ v p - tk t p + pt t p ≤ most)) → mEs (d - 1) 167 o g167 (6, [some (.ref o), some (.ref r), some (.int (nI base)), some (.int (nI t)), some (.int (nI most)), some (.int b), some (.int (nI (p + 1))), o7], [], m) Q := by
        intro o7 b C hb hC
        refine ih _ _ ?_
        rw [hb]
        exact bz_cg ⟨fun z => canS_s.mpr ⟨c, hC.mp z⟩, fun z => hC.mpr (canS_s.mp z).2⟩
      refine ev_tkM (by omega) hT hO hN ht (by omega) ?_
      refine bk167_37 hT hO hA ?_
      simp (disch := omega) only [forall_eq, nIle, nI_ltI, nIeq, nIx10, n10x, nI_add, nI_clamp, nIin_iff, nIinc, nIlt0, nIeq0, nIle0, nIle1, n1lt, n0lt, nIeq1, bz_0, Classical.not_not, l1M]
      refine ⟨fun c2 => fin _ _ False (bz_f id).symm ⟨False.elim, fun z => by omega⟩, fun c2 => ⟨fun c3 => fin _ _ True (bz_t trivial).symm ⟨fun _ => ⟨by omega, Or.inl c3⟩, fun _ => trivial⟩, fun c3 => ?_⟩⟩
      refine ev_tkM (by omega) hT hO hN ht (by omega) ?_
      refine bk167_56 hT hO hA ?_
      refine ev_ptM (by omega) hT hO hN ht (by omega) ?_
      refine bk167_64 hT hO hA ?_
      rw [pk_sub (by omega)]
      simp (disch := omega) only [forall_eq, nIle, nI_ltI, nIeq, nIx10, n10x, nI_add, nI_clamp, nIin_iff, nIinc, nIlt0, nIeq0, nIle0, nIle1, n1lt, n0lt, nIeq1, bz_0, Classical.not_not]
      refine ⟨fun c4 => fin _ _ False (bz_f id).symm ⟨False.elim, fun z => by omega⟩, fun c4 => fin _ _ True (bz_t trivial).symm ⟨fun _ => ⟨by omega, Or.inr (by omega)⟩, fun _ => trivial⟩⟩
theorem ev_canBy {base : Nat} (hd : 3 ≤ d) (hT : mWT m) (hO : m.1 o = some (.inr 8) ∧ o ≠ 0) (hN : mNet m o P T tk pt) (hk : okNet P T tk pt fi) (hA : m.1 r = some (.inl (.int, lr)) ∧ r ≠ 0) (hl : base + 10 ≤ lr) (hlr : lr < 2 ^ 31) (hv : ∀ p, p < P → m.2.2.1 r (base + p) = nI (mk p)) (hv2 : ∀ p, mk p ≤ 99) (hQ : Q (some (.int (nI (bs (rdyS P tk pt mk) T)))) m) : mEv d 166 [.ref o, .ref r, .int (nI base)] m Q := by
  obtain ⟨n1, n2, n3, n4⟩ := id hN
  obtain ⟨k1, k2, k3, k4, k5, k6, k7⟩ := id hk
  refine mEv.at (by omega) G166 (Nat.le_of_ble_eq_true rfl) ?_
  refine bk166_0 hT hO hA ?_
  refine upto (e := T) (X := fun t => mEs (d - 1) 166 _ g166 (5, [some (.ref o), some (.ref r), some (.int (nI base)), some (.int (nI (bs (rdyS P tk pt mk) t))), some (.int (nI t))], [], m) Q) ?_ ?_ 0 (Nat.zero_le _)
  · refine bk166_5 hT hO hA ?_
    simp (disch := omega) only [forall_eq, nIle, nI_ltI, nIeq, nIx10, n10x, nI_add, nI_clamp, nIin_iff, nIinc, nIlt0, nIeq0, nIle0, nIle1, n1lt, n0lt, nIeq1, bz_0, Classical.not_not, n2]
    exact ⟨fun _ => hQ, fun c => absurd (Nat.le_refl _) c⟩
  · intro t ht ih
    refine bk166_5 hT hO hA ?_
    simp (disch := omega) only [forall_eq, nIle, nI_ltI, nIeq, nIx10, n10x, nI_add, nI_clamp, nIin_iff, nIinc, nIlt0, nIeq0, nIle0, nIle1, n1lt, n0lt, nIeq1, bz_0, Classical.not_not, n2]
    refine ⟨fun c => by omega, fun _ => ?_⟩
    refine ev_canM (v := mk) (most := 99) (by omega) hT hO hN hk hA hl hlr hv (fun p => by have := hv2 p; omega) (by omega) (by omega) ?_
    rw [bz_cg (canS_99 hv2)]
    refine bk166_25 hT hO hA ?_
    simp (disch := omega) only [bz_0, forall_eq, nIinc, shl1, or_n, Int32.or_zero]
    refine ⟨fun c => ?_, fun c => ?_⟩
    · rw [bs_sf c] at ih; exact ih
    · rw [bs_st (Classical.not_not.mp c)] at ih; exact ih
theorem ev_allTok (hd : 1 ≤ d) (hT : mWT m) (hO : m.1 o = some (.inr 8) ∧ o ≠ 0) (hN : mNet m o P T tk pt) (hP : P ≤ 10) (hv : ∀ p, p < 10 → m.2.2.1 (64 * o + 4) p = nI (mk p)) (hv2 : ∀ p, mk p ≤ 99) (hQ : Q (some (.int (nI (fb_sm mk P)))) m) : mEv d 176 [.ref o] m Q := by
  refine mEv.at (by omega) G176 (Nat.le_of_ble_eq_true rfl) ?_
  refine bk176_0 hT hO ?_
  refine upto (e := P) (X := fun p => mEs (d - 1) 176 _ g176 (4, [some (.ref o), some (.int (nI (fb_sm mk p))), some (.int (nI p))], [], m) Q) ?_ ?_ 0 (Nat.zero_le _)
  · refine bk176_4 hT hO ?_
    simp (disch := omega) only [forall_eq, nIle, nI_ltI, nIeq, nIx10, n10x, nI_add, nI_clamp, nIin_iff, nIinc, nIlt0, nIeq0, nIle0, nIle1, n1lt, n0lt, nIeq1, bz_0, Classical.not_not, hN.1]
    exact ⟨fun _ => hQ, fun c => absurd (Nat.le_refl _) c⟩
  · intro p hp ih
    refine bk176_4 hT hO ?_
    simp (disch := omega) only [forall_eq, nIle, nI_ltI, nIeq, nIx10, n10x, nI_add, nI_clamp, nIin_iff, nIinc, nIlt0, nIeq0, nIle0, nIle1, n1lt, n0lt, nIeq1, bz_0, Classical.not_not, hN.1, hv p (by omega)]
    exact ⟨fun c => by omega, fun _ => ⟨by omega, ih⟩⟩
theorem ev_fireNow {t : Nat} (hd : 2 ≤ d) (hT : mWT m) (hO : m.1 o = some (.inr 8) ∧ o ≠ 0) (hN : mNet m o P T tk pt) (hk : okNet P T tk pt fi) (ht : t < 10) (hQ : Q none (mSetI m (64 * o + 4) (moved (m.2.2.1 (64 * o + 4)) tk pt 0 t P))) : mEv d 170 [.ref o, .int (nI t)] m Q := by
  obtain ⟨n1, n2, n3, n4⟩ := id hN
  obtain ⟨k1, k2, k3, k4, k5, k6, k7⟩ := id hk
  refine mEv.at (by omega) G170 (Nat.le_of_ble_eq_true rfl) ?_
  refine bk170_0 hT hO ?_
  have h0 : m = mSetI m (64 * o + 4) (moved (m.2.2.1 (64 * o + 4)) tk pt 0 t 0) := by rw [moved_0, mSetI_id]
  have := upto (e := P) (X := fun p => mEs (d - 1) 170 (mBase [.ref o, .int (nI t)]) g170 (2, [some (.ref o), some (.int (nI t)), some (.int (nI p))], [], mSetI m (64 * o + 4) (moved (m.2.2.1 (64 * o + 4)) tk pt 0 t p)) Q) ?_ ?_ 0 (Nat.zero_le _)
  · rw [← h0] at this; exact this
  · refine bk170_2 hT.setI hO ?_
    simp (disch := omega) only [forall_eq, nIle, nI_ltI, nIeq, nIx10, n10x, nI_add, nI_clamp, nIin_iff, nIinc, nIlt0, nIeq0, nIle0, nIle1, n1lt, n0lt, nIeq1, bz_0, Classical.not_not, rdI_same, rdI_ne, rI_F, rI_J, rJ_F, rJ_I, rdJ_same, rdJ_ne, iF_s, iF_nf, iF_nk, iF_I, iF_J, up_s, up_n, n1]
    exact ⟨fun _ => hQ, fun c => absurd (Nat.le_refl _) c⟩
  · intro p hp ih
    have hN' := hN.sI (r := 64 * o + 4) (f := moved (m.2.2.1 (64 * o + 4)) tk pt 0 t p) (by omega) (by omega)
    have hA : (mSetI m (64 * o + 4) (moved (m.2.2.1 (64 * o + 4)) tk pt 0 t p)).1 (64 * o + 4) = some (.inl (.int, 10)) ∧ 64 * o + 4 ≠ 0 := hT.arr hO 3 rfl (by decide)
    refine bk170_2 hT.setI hO ?_
    simp (disch := omega) only [forall_eq, nIle, nI_ltI, nIeq, nIx10, n10x, nI_add, nI_clamp, nIin_iff, nIinc, nIlt0, nIeq0, nIle0, nIle1, n1lt, n0lt, nIeq1, bz_0, Classical.not_not, rdI_same, rdI_ne, rI_F, rI_J, rJ_F, rJ_I, rdJ_same, rdJ_ne, iF_s, iF_nf, iF_nk, iF_I, iF_J, up_s, up_n, n1]
    refine ⟨fun c => by omega, fun _ => ⟨by omega, ?_⟩⟩
    refine ev_ptM (by omega) hT.setI hO hN' ht (by omega) ?_
    refine bk170_23 hT.setI hO hA ?_
    refine ev_tkM (by omega) hT.setI hO hN' ht (by omega) ?_
    refine bk170_29 hT.setI hO hA ?_
    simp (disch := omega) only [forall_eq, nIle, nI_ltI, nIeq, nIx10, n10x, nI_add, nI_clamp, nIin_iff, nIinc, nIlt0, nIeq0, nIle0, nIle1, n1lt, n0lt, nIeq1, bz_0, Classical.not_not, rdI_same, rdI_ne, rI_F, rI_J, rJ_F, rJ_I, rdJ_same, rdJ_ne, iF_s, iF_nf, iF_nk, iF_I, iF_J, up_s, up_n]
    rw [mSetI_2, moved_out (i := p) (by omega)]
    have e := moved_s (f := m.2.2.1 (64 * o + 4)) (tk := tk) (pt := pt) (base := 0) (t := t) (p := p)
    rw [Nat.zero_add] at e
    rw [e]
    exact ⟨by omega, ih⟩
end MB
