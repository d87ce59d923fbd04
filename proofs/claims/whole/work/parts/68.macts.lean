/-! The model's acts. -/
def mS (m : mMem) (o P T : Nat) (tk pt : Nat → Nat → Nat) (fi : Nat → Nat) (V : aV) : Prop :=
  (m.1 o = some (.inr 8) ∧ o ≠ 0) ∧ mNet m o P T tk pt ∧ okNet P T tk pt fi ∧ iF m o 18 = bz (0 < P) ∧ (∀ p, p < 10 → m.2.2.1 (64 * o + 4) p = nI (V.1 p)) ∧ (∀ p, V.1 p ≤ 99) ∧ (∀ p, p < 10 → m.2.2.1 (64 * o + 5) p = nI (fi p)) ∧ (∀ p, p < 10 → m.2.2.1 (64 * o + 6) p = nI (V.2.1 p)) ∧ (∀ p, V.2.1 p ≤ 99) ∧ iF m o 20 = nI V.2.2.2 ∧ V.2.2.2 ≤ 10 ∧ (∀ a, a < V.2.2.2 → ∀ p, p < 10 → m.2.2.1 (64 * o + 10) (10 * a + p) = nI (V.2.2.1 a p)) ∧ (∀ a p, V.2.2.1 a p ≤ 99)
def maA (o k : Nat) : Prop := k = 64 * o + 4 ∨ k = 64 * o + 6 ∨ k = 64 * o + 10
def maF (o k f : Nat) : Prop := k = o ∧ (f = 0 ∨ f = 20 ∨ f = 21 ∨ f = 27 ∨ f = 45)
def mOkk (o : Nat) (V V' : aV) (m m' : mMem) : Prop := mTo (maA o) (maF o) m m' ∧ iF m' o 0 = 0 ∧ ((iF m' o 21 = iF m o 21 ∧ iF m' o 27 = iF m o 27 ∧ iF m' o 45 = iF m o 45 ∧ V'.1 = V.1) ∨ (iF m' o 21 = 0 ∧ iF m' o 27 = 0 ∧ iF m' o 45 = 0))
section MACT
variable {d o P T : Nat} {tk pt : Nat → Nat → Nat} {fi : Nat → Nat} {V : aV} {m : mMem} {Q : Option Value → mMem → Prop}
theorem mS.to {A : Nat → Prop} {F : Nat → Nat → Prop} {m' : mMem} (h : mS m o P T tk pt fi V) (ht : mTo A F m m') (h1 : ∀ i, 2 ≤ i → i ≤ 6 → ¬ A (64 * o + i)) (h2 : ¬ A (64 * o + 10)) (h3 : ¬ F o 6) (h4 : ¬ F o 7) (h5 : ¬ F o 18) (h6 : ¬ F o 20) : mS m' o P T tk pt fi V := by
  obtain ⟨a1, a2, a3, a4, a5, a6, a7, a8, a9, b1, b2, b3, b4⟩ := h
  refine ⟨ht.ob a1, a2.to ht (h1 2 (by omega) (by omega)) (h1 3 (by omega) (by omega)) h3 h4, a3, by rw [ht.nf h5]; exact a4, ?_, a6, ?_, ?_, a9, by rw [ht.nf h6]; exact b1, b2, ?_, b4⟩
  · rw [ht.i (h1 4 (by omega) (by omega))]; exact a5
  · rw [ht.i (h1 5 (by omega) (by omega))]; exact a7
  · rw [ht.i (h1 6 (by omega) (by omega))]; exact a8
  · rw [ht.i h2]; exact b3
theorem mS.th (h : mS m o P T tk pt fi V) (hT : mWT m) : mS (mSetF m o 0 (.int 0)) o P T tk pt fi V ∧ mTo (fun _ => False) (fun k f => k = o ∧ f = 0) m (mSetF m o 0 (.int 0)) := by
  have T1 : mTo (fun _ => False) (fun k f => k = o ∧ f = 0) m (mSetF m o 0 (.int 0)) := (mTo.rf hT).sF h.1 ⟨rfl, rfl⟩ (by decide)
  exact ⟨h.to T1 (fun _ _ _ => id) id (by omega) (by omega) (by omega) (by omega), T1⟩
theorem mOkk.th (h : mS m o P T tk pt fi V) (hT : mWT m) : mOkk o V V m (mSetF m o 0 (.int 0)) := ⟨(h.th hT).2.mono (fun _ h => h.elim) (fun k f h => ⟨h.1, Or.inl h.2⟩), iF_s, Or.inl ⟨iF_nf (by decide), iF_nf (by decide), iF_nf (by decide), rfl⟩⟩
theorem ev_tokensM {y z : Int32} (hd : 3 ≤ d) (hT : mWT m) (hS : mS m o P T tk pt fi V) (hQ : Q (some (.int (tokA P fi V y z))) (mSetF m o 0 (.int 0))) : mEv d 164 [.ref o, .int y, .int z] m Q := by
  obtain ⟨S1, T1⟩ := hS.th hT
  refine mEv.at (by omega) G164 (Nat.le_of_ble_eq_true rfl) ?_
  refine bk164_0 hT hS.1 ?_
  rintro m1 rfl
  generalize mSetF m o 0 (.int 0) = m1 at *
  obtain ⟨a1, a2, a3, a4, a5, a6, a7, a8, a9, b1, b2, b3, b4⟩ := id S1
  have h10 := a3.1
  refine ev_mPl (by omega) T1.wt a1 a2 h10 _ ?_
  refine bk164_10 T1.wt a1 ?_
  rw [bz_n0]
  unfold tokA at hQ
  refine ⟨fun c => ?_, fun c => ?_⟩
  · rw [cif_t c] at hQ
    obtain ⟨j, hj, rfl⟩ := c
    rw [nI_clamp (by omega)] at hQ
    simp (disch := omega) only [nIin_iff, nI_clamp, a5 j (by omega), a7 j (by omega), a8 j (by omega)]
    refine ⟨fun c => ⟨fun c2 => ⟨fun c3 => ?_, fun c3 => ⟨by omega, ?_⟩⟩, fun c2 => ⟨by omega, ?_⟩⟩, fun c => ⟨by omega, ?_⟩⟩
    · rw [cif_f c, cif_f c2, cif_f c3] at hQ; exact hQ
    · rw [cif_f c, cif_f c2, cif_t (Classical.not_not.mp c3)] at hQ; exact hQ
    · rw [cif_f c, cif_t (Classical.not_not.mp c2)] at hQ; exact hQ
    · rw [cif_t (Classical.not_not.mp c)] at hQ; exact hQ
  · rw [cif_f c] at hQ; exact hQ
theorem ev_canMM (hd : 4 ≤ d) (hT : mWT m) (hS : mS m o P T tk pt fi V) (hQ : Q (some (.int (canA P T tk pt V))) (mSetF m o 0 (.int 0))) : mEv d 165 [.ref o] m Q := by
  obtain ⟨S1, T1⟩ := hS.th hT
  refine mEv.at (by omega) G165 (Nat.le_of_ble_eq_true rfl) ?_
  refine bk165_0 hT hS.1 ?_
  rintro m1 rfl
  generalize mSetF m o 0 (.int 0) = m1 at *
  obtain ⟨a1, a2, a3, a4, a5, a6, a7, a8, a9, b1, b2, b3, b4⟩ := id S1
  have h10 := a3.1
  rw [a4, bz_0]
  unfold canA at hQ
  refine ⟨fun c => ?_, fun c => ?_⟩
  · rw [cif_f c] at hQ; exact hQ
  · rw [cif_t (Classical.not_not.mp c)] at hQ
    refine ev_canBy (base := 0) (by omega) T1.wt a1 a2 a3 (T1.wt.arr a1 3 rfl (by decide)) (by omega) (by decide) (fun p hp => by rw [Nat.zero_add]; exact a5 p (by omega)) a6 ?_
    exact bk165_21 T1.wt a1 hQ
theorem ev_rem' (hd : 2 ≤ d) (hT : mWT m) (hS : mS m o P T tk pt fi V)
    (hQ : ∀ m', mTo (maA o) (maF o) m m' → iF m' o 0 = iF m o 0 → iF m' o 21 = 0 ∧ iF m' o 27 = 0 ∧ iF m' o 45 = 0 → mS m' o P T tk pt fi (pushV V V.1) → Q none m') : mEv d 169 [.ref o] m Q := by
  obtain ⟨a1, a2, a3, a4, a5, a6, a7, a8, a9, b1, b2, b3, b4⟩ := id hS
  refine ev_remember hd hT a1 b2 b1 b3 a5 ?_
  intro m' t z1 z2 z3 z4 z5
  refine hQ m' (t.mono (fun k h => by unfold maA; omega) (fun k f h => by unfold rmF at h; unfold maF; omega)) (t.nf (by unfold rmF; omega)) ⟨z3, z4, z5⟩ ⟨t.ob a1, a2.to t (by omega) (by omega) (by unfold rmF; omega) (by unfold rmF; omega), a3, by rw [t.nf (by unfold rmF; omega)]; exact a4, ?_, a6, ?_, ?_, a9, z2, pNa_le b2, z1, fun a p => pAc_le b4 a6 a p⟩
  · rw [t.i (by omega)]; exact a5
  · rw [t.i (by omega)]; exact a7
  · rw [t.i (by omega)]; exact a8
theorem mS.mk' {m' : mMem} {mk : Nat → Nat} (hS : mS m o P T tk pt fi V) (T' : mTo (fun k => k = 64 * o + 4) (fun _ _ => False) m m') (h1 : ∀ p, p < 10 → m'.2.2.1 (64 * o + 4) p = nI (mk p)) (h2 : ∀ p, mk p ≤ 99) : mS m' o P T tk pt fi (mk, V.2) := by
  obtain ⟨a1, a2, a3, a4, a5, a6, a7, a8, a9, b1, b2, b3, b4⟩ := id hS
  refine ⟨T'.ob a1, a2.to T' (by omega) (by omega) id id, a3, by rw [T'.nf id]; exact a4, h1, h2, ?_, ?_, a9, by rw [T'.nf id]; exact b1, b2, ?_, b4⟩
  · rw [T'.i (by omega)]; exact a7
  · rw [T'.i (by omega)]; exact a8
  · rw [T'.i (by omega)]; exact b3
/-- behind an act -/
theorem mOkk.act {V' : aV} {m1 m2 m3 : mMem} (T1 : mTo (fun _ => False) (fun k f => k = o ∧ f = 0) m m1) (h0 : iF m1 o 0 = 0) (T2 : mTo (maA o) (maF o) m1 m2) (h1 : iF m2 o 0 = iF m1 o 0) (h2 : iF m2 o 21 = 0 ∧ iF m2 o 27 = 0 ∧ iF m2 o 45 = 0) (T3 : mTo (fun k => k = 64 * o + 4) (fun _ _ => False) m2 m3) : mOkk o V V' m m3 :=
  ⟨((T1.mono (fun _ h => h.elim) (fun k f h => ⟨h.1, Or.inl h.2⟩)).tr T2).tr (T3.mono (fun k h => by unfold maA; omega) (fun _ _ h => h.elim)), by rw [T3.nf id, h1, h0], Or.inr ⟨by rw [T3.nf id]; exact h2.1, by rw [T3.nf id]; exact h2.2.1, by rw [T3.nf id]; exact h2.2.2⟩⟩
theorem ev_fireM {y : Int32} (hd : 4 ≤ d) (hT : mWT m) (hS : mS m o P T tk pt fi V)
    (hQ : ∀ m', mOkk o V (fireV P T tk pt V y) m m' → mS m' o P T tk pt fi (fireV P T tk pt V y) → Q (some (.int (fireA P T tk pt V y))) m') : mEv d 168 [.ref o, .int y] m Q := by
  obtain ⟨S1, T1⟩ := hS.th hT
  have hok := mOkk.th hS hT
  have z0 : iF (mSetF m o 0 (.int 0)) o 0 = 0 := iF_s
  refine mEv.at (by omega) G168 (Nat.le_of_ble_eq_true rfl) ?_
  refine bk168_0 hT hS.1 ?_
  rintro m1 rfl
  generalize mSetF m o 0 (.int 0) = m1 at *
  obtain ⟨a1, a2, a3, a4, a5, a6, a7, a8, a9, b1, b2, b3, b4⟩ := id S1
  have h10 := a3.1
  have hk2 := a3.2.1
  refine ev_mTr (by omega) T1.wt a1 a2 a3.2.1 _ ?_
  refine bk168_10 T1.wt a1 ?_
  rw [bz_n0]
  unfold fireA fireV at hQ
  refine ⟨fun c => ?_, fun c => ?_⟩
  · obtain ⟨t, ht, rfl⟩ := id c
    rw [nI_clamp (by omega), cif_t c] at hQ
    refine ev_canM (base := 0) (v := V.1) (most := 99) (by omega) T1.wt a1 a2 a3 (T1.wt.arr a1 3 rfl (by decide)) (by omega) (by decide) (fun p hp => by rw [Nat.zero_add]; exact a5 p (by omega)) (fun p => by have := a6 p; omega) (by omega) (by omega) ?_
    rw [bz_cg (canS_99 a6)]
    refine bk168_28 T1.wt a1 ?_
    rw [bz_n0]
    refine ⟨fun c2 => ?_, fun c2 => ?_⟩
    · rw [cif_t c2, cif_t ⟨c, c2⟩] at hQ
      refine ev_rem' (by omega) T1.wt S1 ?_
      intro m2 T2 y0 y1 S2
      refine bk168_38 T2.wt S2.1 ?_
      refine ev_fireNow (by omega) T2.wt S2.1 S2.2.1 a3 (by omega) ?_
      have Tm := (mTo.rf (A := fun k => k = 64 * o + 4) (F := fun _ _ => False) T2.wt).sI (k := 64 * o + 4) (g := moved (m2.2.2.1 (64 * o + 4)) tk pt 0 t P) rfl
      have S3 := S2.mk' (mk := frd tk pt V.1 t) Tm (fun p hp => by rw [rdI_same]; exact moved_mk a3 S2.2.2.2.2.1 c2 p hp) (frd_99 a3 a6 c2)
      refine bk168_43 Tm.wt S3.1 ?_
      refine ev_canBy (base := 0) (by omega) Tm.wt S3.1 S3.2.1 a3 (Tm.wt.arr S3.1 3 rfl (by decide)) (by omega) (by decide) (fun p hp => by rw [Nat.zero_add]; exact S3.2.2.2.2.1 p (by omega)) S3.2.2.2.2.2.1 ?_
      refine bk168_52 Tm.wt S3.1 ?_
      have hb := bs_small (rdyS P tk pt (frd tk pt V.1 t)) hk2
      refine ev_ones (by omega) Tm.wt (Nat.lt_trans hb (by decide)) ?_
      exact bk168_55 Tm.wt S3.1 (hQ _ (mOkk.act T1 z0 T2 y0 y1 Tm) S3)
    · rw [cif_f c2, cif_f (fun z => c2 z.2)] at hQ
      exact hQ m1 hok S1
  · rw [cif_f c, cif_f (fun z => c z.1)] at hQ
    exact hQ m1 hok S1
theorem tn_iff {z : Int32} : ((0 : Int64) ≤ z.toInt64 ∧ z.toInt64 ≤ 99) ↔ tn99 z := by
  rw [show (0 : Int64) = lN 0 from rfl, show (99 : Int64) = lN 99 from rfl, in_iff (by omega) (by omega)]
  exact ⟨fun ⟨j, _, a, b⟩ => ⟨j, a, b⟩, fun ⟨j, a, b⟩ => ⟨j, Nat.zero_le _, a, b⟩⟩
theorem ev_putM {y z : Int32} (hd : 3 ≤ d) (hT : mWT m) (hS : mS m o P T tk pt fi V)
    (hQ : ∀ m', mOkk o V (putV P V y z) m m' → mS m' o P T tk pt fi (putV P V y z) → Q (some (.int (putA P V y z))) m') : mEv d 172 [.ref o, .int y, .int z] m Q := by
  obtain ⟨S1, T1⟩ := hS.th hT
  have hok := mOkk.th hS hT
  have z0 : iF (mSetF m o 0 (.int 0)) o 0 = 0 := iF_s
  refine mEv.at (by omega) G172 (Nat.le_of_ble_eq_true rfl) ?_
  refine bk172_0 hT hS.1 ?_
  rintro m1 rfl
  generalize mSetF m o 0 (.int 0) = m1 at *
  obtain ⟨a1, a2, a3, a4, a5, a6, a7, a8, a9, b1, b2, b3, b4⟩ := id S1
  have h10 := a3.1
  refine ev_in (by omega) T1.wt ?_
  rw [bz_cg tn_iff]
  refine bk172_14 T1.wt a1 ?_
  rw [bz_n0]
  unfold putA putV at hQ
  refine ⟨fun c => ?_, fun c => ?_⟩
  · rw [cif_t c] at hQ
    refine ev_mPl (by omega) T1.wt a1 a2 h10 _ ?_
    refine bk172_24 T1.wt a1 ?_
    rw [bz_n0]
    refine ⟨fun c2 => ?_, fun c2 => ?_⟩
    · rw [cif_t c2, cif_t ⟨c, c2⟩] at hQ
      obtain ⟨w, hw, rfl⟩ := c
      obtain ⟨j, hj, rfl⟩ := c2
      rw [nI_clamp (by omega), nI_clamp (by omega)] at hQ
      refine ev_rem' (by omega) T1.wt S1 ?_
      intro m2 T2 y0 y1 S2
      refine bk172_34 T2.wt S2.1 ?_
      simp (disch := omega) only [forall_eq, l2, l3, l4, l9, l10, l11, l12, l20, l30, l80, l90, l99, l100, l110, l200, l240, l252, l300, l1024, l1M, nI_mul, nIle, nI_ltI, nIeq, nIx10, n10x, nI_add, nI_clamp, nIin_iff, nIinc, nIlt0, nIeq0, nIle0, nIle1, n1lt, n0lt, nIeq1, bz_0, Classical.not_not, S2.2.2.2.2.1 j (by omega)]
      refine ⟨by omega, by omega, ?_⟩
      have Tm := (mTo.rf (A := fun k => k = 64 * o + 4) (F := fun _ _ => False) T2.wt).sI (k := 64 * o + 4) (g := upd (m2.2.2.1 (64 * o + 4)) j (nI w)) rfl
      have S3 := S2.mk' (mk := updN V.1 j w) Tm (fun p hp => by
        rw [rdI_same]
        by_cases e : p = j
        · subst e; rw [up_s, updN_s]
        · rw [up_n e, updN_n e]; exact S2.2.2.2.2.1 p hp) (fun p => by
        by_cases e : p = j
        · subst e; rw [updN_s]; exact hw
        · rw [updN_n e]; exact a6 p)
      exact hQ _ (mOkk.act T1 z0 T2 y0 y1 Tm) S3
    · rw [cif_f c2, cif_f (fun z => c2 z.2)] at hQ
      exact hQ m1 hok S1
  · rw [cif_f c, cif_f (fun z => c z.1)] at hQ
    exact hQ m1 hok S1
theorem ev_goalM {y z : Int32} (hd : 3 ≤ d) (hT : mWT m) (hS : mS m o P T tk pt fi V)
    (hQ : ∀ m', mOkk o V (goalV P V y z) m m' → mS m' o P T tk pt fi (goalV P V y z) → Q (some (.int (goalA P V y z))) m') : mEv d 178 [.ref o, .int y, .int z] m Q := by
  obtain ⟨S1, T1⟩ := hS.th hT
  have hok := mOkk.th hS hT
  have z0 : iF (mSetF m o 0 (.int 0)) o 0 = 0 := iF_s
  refine mEv.at (by omega) G178 (Nat.le_of_ble_eq_true rfl) ?_
  refine bk178_0 hT hS.1 ?_
  rintro m1 rfl
  have zz : iF (mSetF m o 0 (.int 0)) o 21 = iF m o 21 ∧ iF (mSetF m o 0 (.int 0)) o 27 = iF m o 27 ∧ iF (mSetF m o 0 (.int 0)) o 45 = iF m o 45 := ⟨iF_nf (by decide), iF_nf (by decide), iF_nf (by decide)⟩
  generalize mSetF m o 0 (.int 0) = m1 at *
  obtain ⟨a1, a2, a3, a4, a5, a6, a7, a8, a9, b1, b2, b3, b4⟩ := id S1
  have h10 := a3.1
  refine ev_in (by omega) T1.wt ?_
  rw [bz_cg tn_iff]
  refine bk178_14 T1.wt a1 ?_
  rw [bz_n0]
  unfold goalA goalV at hQ
  refine ⟨fun c => ?_, fun c => ?_⟩
  · rw [cif_t c] at hQ
    refine ev_mPl (by omega) T1.wt a1 a2 h10 _ ?_
    refine bk178_24 T1.wt a1 ?_
    rw [bz_n0]
    refine ⟨fun c2 => ?_, fun c2 => ?_⟩
    · rw [cif_t c2, cif_t ⟨c, c2⟩] at hQ
      obtain ⟨w, hw, rfl⟩ := c
      obtain ⟨j, hj, rfl⟩ := c2
      rw [nI_clamp (by omega), nI_clamp (by omega)] at hQ
      simp (disch := omega) only [forall_eq, l2, l3, l4, l9, l10, l11, l12, l20, l30, l80, l90, l99, l100, l110, l200, l240, l252, l300, l1024, l1M, nI_mul, nIle, nI_ltI, nIeq, nIx10, n10x, nI_add, nI_clamp, nIin_iff, nIinc, nIlt0, nIeq0, nIle0, nIle1, n1lt, n0lt, nIeq1, bz_0, Classical.not_not, a8 j (by omega)]
      refine ⟨by omega, by omega, ?_⟩
      have Tm := (mTo.rf (A := maA o) (F := maF o) T1.wt).sI (k := 64 * o + 6) (g := upd (m1.2.2.1 (64 * o + 6)) j (nI w)) (by unfold maA; omega)
      refine hQ _ ⟨(T1.mono (fun _ h => h.elim) (fun k f h => ⟨h.1, Or.inl h.2⟩)).tr Tm, z0, Or.inl ⟨zz.1, zz.2.1, zz.2.2, rfl⟩⟩ ⟨a1, a2.sI (by omega) (by omega), a3, a4, ?_, a6, ?_, ?_, ?_, b1, b2, ?_, b4⟩
      · rw [rdI_ne (by omega)]; exact a5
      · rw [rdI_ne (by omega)]; exact a7
      · intro p hp
        rw [rdI_same]
        by_cases e : p = j
        · subst e; rw [up_s]; show _ = nI (updN V.2.1 p w p); rw [updN_s]
        · rw [up_n e]; show _ = nI (updN V.2.1 j w p); rw [updN_n e]; exact a8 p hp
      · intro p
        show updN V.2.1 j w p ≤ 99
        by_cases e : p = j
        · subst e; rw [updN_s]; exact hw
        · rw [updN_n e]; exact a9 p
      · rw [rdI_ne (by omega)]; exact b3
    · rw [cif_f c2, cif_f (fun z => c2 z.2)] at hQ
      exact hQ m1 hok S1
  · rw [cif_f c, cif_f (fun z => c z.1)] at hQ
    exact hQ m1 hok S1
theorem ev_homeM (hd : 3 ≤ d) (hT : mWT m) (hS : mS m o P T tk pt fi V)
    (hQ : ∀ m', mOkk o V (homeV P fi V) m m' → mS m' o P T tk pt fi (homeV P fi V) → Q (some (.int (homeA P fi))) m') : mEv d 175 [.ref o] m Q := by
  obtain ⟨S1, T1⟩ := hS.th hT
  have hok := mOkk.th hS hT
  have z0 : iF (mSetF m o 0 (.int 0)) o 0 = 0 := iF_s
  refine mEv.at (by omega) G175 (Nat.le_of_ble_eq_true rfl) ?_
  refine bk175_0 hT hS.1 ?_
  rintro m1 rfl
  generalize mSetF m o 0 (.int 0) = m1 at *
  obtain ⟨a1, a2, a3, a4, a5, a6, a7, a8, a9, b1, b2, b3, b4⟩ := id S1
  have h10 := a3.1
  rw [a4, bz_n0]
  unfold homeA homeV at hQ
  refine ⟨fun c => ?_, fun c => ?_⟩
  · rw [cif_t c, cif_t c] at hQ
    refine ev_rem' (by omega) T1.wt S1 ?_
    intro m2 T2 y0 y1 S2
    refine bk175_19 T2.wt S2.1 ?_
    refine upto (e := 10) (X := fun i => ∀ m3, mTo (fun k => k = 64 * o + 4) (fun _ _ => False) m2 m3 → (∀ p, p < i → m3.2.2.1 (64 * o + 4) p = nI (fi p)) → mEs (d - 1) 175 _ g175 (21, [some (.ref o), some (.int (nI i))], [], m3) Q) ?_ ?_ 0 (Nat.zero_le _) m2 (mTo.rf T2.wt) (fun p hp => absurd hp (Nat.not_lt_zero _))
    · intro m3 Tm h3
      have S3 := S2.mk' (mk := fi) Tm h3 a3.2.2.2.2.1
      refine bk175_21 Tm.wt S3.1 ?_
      simp (disch := omega) only [forall_eq, l2, l3, l4, l9, l10, l11, l12, l20, l30, l80, l90, l99, l100, l110, l200, l240, l252, l300, l1024, l1M, nI_mul, nIle, nI_ltI, nIeq, nIx10, n10x, nI_add, nI_clamp, nIin_iff, nIinc, nIlt0, nIeq0, nIle0, nIle1, n1lt, n0lt, nIeq1, bz_0, Classical.not_not]
      refine ⟨fun _ => ?_, fun c => absurd (Nat.le_refl _) c⟩
      refine ev_allTok (by omega) Tm.wt S3.1 S3.2.1 h10 S3.2.2.2.2.1 S3.2.2.2.2.2.1 ?_
      exact bk175_49 Tm.wt S3.1 (hQ _ (mOkk.act T1 z0 T2 y0 y1 Tm) S3)
    · intro i hi ih m3 Tm h3
      have e5 : m3.2.2.1 (64 * o + 5) i = nI (fi i) := by rw [Tm.i (by omega)]; exact S2.2.2.2.2.2.2.1 i hi
      refine bk175_21 Tm.wt (Tm.ob S2.1) ?_
      simp (disch := omega) only [forall_eq, l2, l3, l4, l9, l10, l11, l12, l20, l30, l80, l90, l99, l100, l110, l200, l240, l252, l300, l1024, l1M, nI_mul, nIle, nI_ltI, nIeq, nIx10, n10x, nI_add, nI_clamp, nIin_iff, nIinc, nIlt0, nIeq0, nIle0, nIle1, n1lt, n0lt, nIeq1, bz_0, Classical.not_not, e5]
      refine ⟨fun c => by omega, fun _ => ⟨by omega, by omega, ?_⟩⟩
      refine ih _ (Tm.sI rfl) ?_
      intro p hp
      rw [rdI_same]
      by_cases e : p = i
      · subst e; rw [up_s]
      · rw [up_n e]; exact h3 p (by omega)
  · rw [cif_f c, cif_f c] at hQ
    exact hQ m1 hok S1
theorem ev_undoM (hd : 3 ≤ d) (hT : mWT m) (hS : mS m o P T tk pt fi V)
    (hQ : ∀ m', mOkk o V (undoV P V) m m' → mS m' o P T tk pt fi (undoV P V) → Q (some (.int (undoA P V))) m') : mEv d 177 [.ref o] m Q := by
  obtain ⟨S1, T1⟩ := hS.th hT
  have hok := mOkk.th hS hT
  have z0 : iF (mSetF m o 0 (.int 0)) o 0 = 0 := iF_s
  refine mEv.at (by omega) G177 (Nat.le_of_ble_eq_true rfl) ?_
  refine bk177_0 hT hS.1 ?_
  rintro m1 rfl
  generalize mSetF m o 0 (.int 0) = m1 at *
  obtain ⟨a1, a2, a3, a4, a5, a6, a7, a8, a9, b1, b2, b3, b4⟩ := id S1
  have h10 := a3.1
  rw [a4, bz_n0]
  unfold undoA undoV at hQ
  refine ⟨fun c => ?_, fun c => ?_⟩
  · rw [cif_t c] at hQ
    simp (disch := omega) only [forall_eq, l2, l3, l4, l9, l10, l11, l12, l20, l30, l80, l90, l99, l100, l110, l200, l240, l252, l300, l1024, l1M, nI_mul, nIle, nI_ltI, nIeq, nIx10, n10x, nI_add, nI_clamp, nIin_iff, nIinc, nIlt0, nIeq0, nIle0, nIle1, n1lt, n0lt, nIeq1, bz_0, Classical.not_not, b1]
    refine ⟨fun c2 => ?_, fun c2 => ?_⟩
    · rw [cif_t ⟨c, c2⟩, cif_f c2] at hQ
      rw [nIdec (by omega)]
      have T2 : mTo (maA o) (maF o) m1 (mSetF m1 o 20 (.int (nI (V.2.2.2 - 1)))) := (mTo.rf T1.wt).sF a1 ⟨rfl, by omega⟩ (by decide)
      refine upto (e := 10) (X := fun i => ∀ m3, mTo (maA o) (maF o) m1 m3 → iF m3 o 0 = 0 → iF m3 o 20 = nI (V.2.2.2 - 1) → (m3.2.2.1 (64 * o + 6) = m1.2.2.1 (64 * o + 6)) → (m3.2.2.1 (64 * o + 10) = m1.2.2.1 (64 * o + 10)) → (∀ p, p < i → m3.2.2.1 (64 * o + 4) p = nI (V.2.2.1 (V.2.2.2 - 1) p)) → mEs (d - 1) 177 _ g177 (37, [some (.ref o), some (.int (nI i))], [], m3) Q) ?_ ?_ 0 (Nat.zero_le _) _ T2 (by rw [iF_nf (by decide)]; exact z0) iF_s rfl rfl (fun p hp => absurd hp (Nat.not_lt_zero _))
      · intro m3 T3 y0 y20 y6 y10 y4
        refine bk177_37 T3.wt (T3.ob a1) ?_
        simp (disch := omega) only [forall_eq, l2, l3, l4, l9, l10, l11, l12, l20, l30, l80, l90, l99, l100, l110, l200, l240, l252, l300, l1024, l1M, nI_mul, nIle, nI_ltI, nIeq, nIx10, n10x, nI_add, nI_clamp, nIin_iff, nIinc, nIlt0, nIeq0, nIle0, nIle1, n1lt, n0lt, nIeq1, bz_0, Classical.not_not]
        refine ⟨fun _ => ?_, fun c => absurd (Nat.le_refl _) c⟩
        refine ev_changed (by omega) T3.wt (T3.ob a1) ?_
        have T6 := ((T3.sF (v := 0) a1 (f := 21) ⟨rfl, by omega⟩ (by decide)).sF (v := 0) a1 (f := 27) ⟨rfl, by omega⟩ (by decide)).sF (v := 0) a1 (f := 45) ⟨rfl, by omega⟩ (by decide)
        refine bk177_73 T6.wt (T6.ob a1) ?_
        have e20 : iF (mSetF (mSetF (mSetF m3 o 21 (.int 0)) o 27 (.int 0)) o 45 (.int 0)) o 20 = nI (V.2.2.2 - 1) := by simp (disch := omega) only [forall_eq, l2, l3, l4, l9, l10, l11, l12, l20, l30, l80, l90, l99, l100, l110, l200, l240, l252, l300, l1024, l1M, nI_mul, nIle, nI_ltI, nIeq, nIx10, n10x, nI_add, nI_clamp, nIin_iff, nIinc, nIlt0, nIeq0, nIle0, nIle1, n1lt, n0lt, nIeq1, bz_0, Classical.not_not, rdI_same, rdI_ne, rI_F, rI_J, rJ_F, rJ_I, rdJ_same, rdJ_ne, iF_s, iF_nf, iF_nk, iF_I, iF_J, up_s, up_n, y20]
        rw [e20]
        refine hQ _ ⟨(T1.mono (fun _ h => h.elim) (fun k f h => ⟨h.1, Or.inl h.2⟩)).tr T6, by simp (disch := omega) only [forall_eq, l2, l3, l4, l9, l10, l11, l12, l20, l30, l80, l90, l99, l100, l110, l200, l240, l252, l300, l1024, l1M, nI_mul, nIle, nI_ltI, nIeq, nIx10, n10x, nI_add, nI_clamp, nIin_iff, nIinc, nIlt0, nIeq0, nIle0, nIle1, n1lt, n0lt, nIeq1, bz_0, Classical.not_not, rdI_same, rdI_ne, rI_F, rI_J, rJ_F, rJ_I, rdJ_same, rdJ_ne, iF_s, iF_nf, iF_nk, iF_I, iF_J, up_s, up_n, y0], Or.inr ⟨by simp (disch := omega) only [forall_eq, l2, l3, l4, l9, l10, l11, l12, l20, l30, l80, l90, l99, l100, l110, l200, l240, l252, l300, l1024, l1M, nI_mul, nIle, nI_ltI, nIeq, nIx10, n10x, nI_add, nI_clamp, nIin_iff, nIinc, nIlt0, nIeq0, nIle0, nIle1, n1lt, n0lt, nIeq1, bz_0, Classical.not_not, rdI_same, rdI_ne, rI_F, rI_J, rJ_F, rJ_I, rdJ_same, rdJ_ne, iF_s, iF_nf, iF_nk, iF_I, iF_J, up_s, up_n], by simp (disch := omega) only [forall_eq, l2, l3, l4, l9, l10, l11, l12, l20, l30, l80, l90, l99, l100, l110, l200, l240, l252, l300, l1024, l1M, nI_mul, nIle, nI_ltI, nIeq, nIx10, n10x, nI_add, nI_clamp, nIin_iff, nIinc, nIlt0, nIeq0, nIle0, nIle1, n1lt, n0lt, nIeq1, bz_0, Classical.not_not, rdI_same, rdI_ne, rI_F, rI_J, rJ_F, rJ_I, rdJ_same, rdJ_ne, iF_s, iF_nf, iF_nk, iF_I, iF_J, up_s, up_n], by simp (disch := omega) only [forall_eq, l2, l3, l4, l9, l10, l11, l12, l20, l30, l80, l90, l99, l100, l110, l200, l240, l252, l300, l1024, l1M, nI_mul, nIle, nI_ltI, nIeq, nIx10, n10x, nI_add, nI_clamp, nIin_iff, nIinc, nIlt0, nIeq0, nIle0, nIle1, n1lt, n0lt, nIeq1, bz_0, Classical.not_not, rdI_same, rdI_ne, rI_F, rI_J, rJ_F, rJ_I, rdJ_same, rdJ_ne, iF_s, iF_nf, iF_nk, iF_I, iF_J, up_s, up_n]⟩⟩ ⟨T6.ob a1, a2.to T6 (by unfold maA; omega) (by unfold maA; omega) (by unfold maF; omega) (by unfold maF; omega), a3, by rw [T6.nf (by unfold maF; omega)]; exact a4, y4, fun p => b4 _ p, ?_, ?_, a9, e20, ?_, ?_, b4⟩
        · rw [T6.i (by unfold maA; omega)]; exact a7
        · intro p hp; simp (disch := omega) only [forall_eq, l2, l3, l4, l9, l10, l11, l12, l20, l30, l80, l90, l99, l100, l110, l200, l240, l252, l300, l1024, l1M, nI_mul, nIle, nI_ltI, nIeq, nIx10, n10x, nI_add, nI_clamp, nIin_iff, nIinc, nIlt0, nIeq0, nIle0, nIle1, n1lt, n0lt, nIeq1, bz_0, Classical.not_not, rdI_same, rdI_ne, rI_F, rI_J, rJ_F, rJ_I, rdJ_same, rdJ_ne, iF_s, iF_nf, iF_nk, iF_I, iF_J, up_s, up_n, y6]; exact a8 p hp
        · show V.2.2.2 - 1 ≤ 10; omega
        · intro a ha p hp
          have ha' : a < V.2.2.2 - 1 := ha
          simp (disch := omega) only [forall_eq, l2, l3, l4, l9, l10, l11, l12, l20, l30, l80, l90, l99, l100, l110, l200, l240, l252, l300, l1024, l1M, nI_mul, nIle, nI_ltI, nIeq, nIx10, n10x, nI_add, nI_clamp, nIin_iff, nIinc, nIlt0, nIeq0, nIle0, nIle1, n1lt, n0lt, nIeq1, bz_0, Classical.not_not, rdI_same, rdI_ne, rI_F, rI_J, rJ_F, rJ_I, rdJ_same, rdJ_ne, iF_s, iF_nf, iF_nk, iF_I, iF_J, up_s, up_n, y10]
          exact b3 a (by omega) p hp
      · intro i hi ih m3 T3 y0 y20 y6 y10 y4
        have e10 := b3 (V.2.2.2 - 1) (by omega) i hi
        rw [← y10] at e10
        refine bk177_37 T3.wt (T3.ob a1) ?_
        simp (disch := omega) only [forall_eq, l2, l3, l4, l9, l10, l11, l12, l20, l30, l80, l90, l99, l100, l110, l200, l240, l252, l300, l1024, l1M, nI_mul, nIle, nI_ltI, nIeq, nIx10, n10x, nI_add, nI_clamp, nIin_iff, nIinc, nIlt0, nIeq0, nIle0, nIle1, n1lt, n0lt, nIeq1, bz_0, Classical.not_not, y20, e10]
        refine ⟨fun c => by omega, fun _ => ⟨by omega, by omega, ?_⟩⟩
        refine ih _ (T3.sI (by unfold maA; omega)) y0 y20 (by rw [rdI_ne (by omega)]; exact y6) (by rw [rdI_ne (by omega)]; exact y10) ?_
        intro p hp
        rw [rdI_same]
        by_cases e : p = i
        · subst e; rw [up_s]
        · rw [up_n e]; exact y4 p (by omega)
    · rw [cif_f (fun z => z.2 c2), cif_t c2] at hQ
      exact hQ m1 hok S1
  · rw [cif_f c, cif_f (fun z => c z.1)] at hQ
    exact hQ m1 hok S1
theorem okR_in {y z : Int32} : (((0 : Int64) ≤ y.toInt64 ∧ y.toInt64 ≤ 999999) ∧ ((1 : Int64) ≤ z.toInt64 ∧ z.toInt64 ≤ 200)) ↔ okR y z := by
  rw [show (0 : Int64) = lN 0 from rfl, show (999999 : Int64) = lN 999999 from rfl, show (1 : Int64) = lN 1 from rfl, show (200 : Int64) = lN 200 from rfl, in_iff (by omega) (by omega), in_iff (by omega) (by omega)]
  unfold okR
  constructor
  · rintro ⟨⟨j, _, h1, h2⟩, h3⟩; exact ⟨⟨j, by omega, h2⟩, h3⟩
  · rintro ⟨⟨j, h1, h2⟩, h3⟩; exact ⟨⟨j, by omega, by omega, h2⟩, h3⟩
theorem ev_runM {y z : Int32} (hd : 5 ≤ d) (hT : mWT m) (hS : mS m o P T tk pt fi V)
    (hQ : ∀ m', mOkk o V (runV P T tk pt V y z) m m' → mS m' o P T tk pt fi (runV P T tk pt V y z) → Q (some (.int (runA P T tk pt V y z))) m') : mEv d 173 [.ref o, .int y, .int z] m Q := by
  obtain ⟨S1, T1⟩ := hS.th hT
  have hok := mOkk.th hS hT
  have z0 : iF (mSetF m o 0 (.int 0)) o 0 = 0 := iF_s
  refine mEv.at (by omega) G173 (Nat.le_of_ble_eq_true rfl) ?_
  refine bk173_0 hT hS.1 ?_
  rintro m1 rfl
  generalize mSetF m o 0 (.int 0) = m1 at *
  obtain ⟨a1, a2, a3, a4, a5, a6, a7, a8, a9, b1, b2, b3, b4⟩ := id S1
  have h10 := a3.1
  have hk2 := a3.2.1
  unfold runA runV at hQ
  refine ev_in (by omega) T1.wt ?_
  refine bk173_14 T1.wt a1 ?_
  rw [bz_0]
  refine ⟨fun c => ?_, fun c => ?_⟩
  · have q : ¬ okR y z := fun h => c (okR_in.mpr h).1
    rw [cif_f q, cif_f (fun z => q z.1)] at hQ
    exact hQ m1 hok S1
  · refine ev_in (by omega) T1.wt ?_
    refine bk173_26 T1.wt a1 ?_
    rw [bz_n0, a4, bz_n0]
    refine ⟨fun c2 => ?_, fun c2 => ?_⟩
    · have q : okR y z := okR_in.mp ⟨Classical.not_not.mp c, c2⟩
      rw [cif_t q] at hQ
      refine ⟨fun c3 => ?_, fun c3 => ?_⟩
      · rw [cif_t c3, cif_t ⟨q, c3⟩] at hQ
        obtain ⟨⟨s0, e1, rfl⟩, w, e2, e3, rfl⟩ := q
        rw [nI_clamp (by omega), nI_clamp (by omega)] at hQ
        refine ev_rem' (by omega) T1.wt S1 ?_
        intro m2 T2 y0 y1 S2
        refine bk173_45 T2.wt S2.1 ?_
        rw [nI_l (by omega)]
        rintro v1 rfl
        refine ev_canBy (base := 0) (by omega) T2.wt S2.1 S2.2.1 a3 (T2.wt.arr S2.1 3 rfl (by decide)) (by omega) (by decide) (fun p hp => by rw [Nat.zero_add]; exact S2.2.2.2.2.1 p (by omega)) S2.2.2.2.2.2.1 ?_
        refine bk173_60 T2.wt S2.1 ?_
        refine upto (e := w) (X := fun k => ∀ (s : Nat) (mk : Nat → Nat) (m3 : mMem), mTo (fun k => k = 64 * o + 4) (fun _ _ => False) m2 m3 → mS m3 o P T tk pt fi (mk, (pushV V V.1).2) → s < 1000003 → (rnk P T tk pt (w - k) s mk).1 + k = (rnk P T tk pt w s0 V.1).1 → (rnk P T tk pt (w - k) s mk).2 = (rnk P T tk pt w s0 V.1).2 → mEs (d - 1) 173 _ g173 (62, [some (.ref o), some (.int (nI s0)), some (.int (nI w)), some (.long (lN s)), none, some (.int (nI k)), some (.int (nI (bs (rdyS P tk pt mk) T)))], [], m3) Q) ?_ ?_ 0 (Nat.zero_le _) s0 V.1 m2 (mTo.rf T2.wt) S2 (by omega) rfl rfl
        · intro s mk m3 Tm S3 hs r1 r2
          rw [Nat.sub_self] at r1 r2
          refine bk173_62 Tm.wt S3.1 ?_
          have r1' : 0 + w = (rnk P T tk pt w s0 V.1).1 := r1
          have r2' : mk = (rnk P T tk pt w s0 V.1).2 := r2
          rw [Nat.zero_add] at r1'
          rw [← r1', ← r2'] at hQ
          refine ⟨fun _ => hQ m3 (mOkk.act T1 z0 T2 y0 y1 Tm) S3, fun c => absurd ((nIle (by omega) (by omega)).mpr (Nat.le_refl _)) c⟩
        · intro k hk' ih s mk m3 Tm S3 hs r1 r2
          obtain ⟨g1, g2, g3, g4, g5, g6, g7, g8, g9, f1, f2, f3, f4⟩ := id S3
          refine bk173_62 Tm.wt S3.1 ?_
          have hb := bs_small (rdyS P tk pt mk) hk2
          have hr := fun t => bs_rdy (P := P) (T := T) (t := t) (tk := tk) (pt := pt) (mk := mk)
          have er : w - k = (w - (k + 1)) + 1 := by omega
          rw [er] at r1 r2
          have rs := fun s' t => rnk_s (P := P) (T := T) (s := s) (s' := s') (t := t) (tk := tk) (pt := pt) (mk := mk) (k := w - (k + 1)) rfl
          have r0 := fun k => rnk_0 (P := P) (T := T) (s := s) (tk := tk) (pt := pt) (mk := mk) (k := k)
          revert hb hr rs r0
          show (_ < 1024 → (∀ t, (bs (rdyS P tk pt mk) T).testBit t = true → _) → _)
          generalize bs (rdyS P tk pt mk) T = b
          intro hb hr rs r0
          have hp := pc_le b
          rw [show (1103 : Int64) = lN 1103 from rfl, lN_mul, show (12345 : Int64) = lN 12345 from rfl, lN_add, show (1000003 : Int64) = lN 1000003 from rfl, pk_lRem (by omega) (by omega) (by omega)]
          refine ⟨fun c => absurd ((nIle (by omega) (by omega)).mp c) (by omega), fun _ => ⟨fun c => ?_, fun c => ?_⟩⟩
          · rw [nIeq0 (by omega)] at c
            rw [r0 _ c] at r1 r2
            have r1' : 0 + k = (rnk P T tk pt w s0 V.1).1 := r1
            have r2' : mk = (rnk P T tk pt w s0 V.1).2 := r2
            rw [Nat.zero_add] at r1'
            rw [← r1', ← r2'] at hQ
            exact hQ m3 (mOkk.act T1 z0 T2 y0 y1 Tm) S3
          · rw [nIeq0 (by omega)] at c
            have hpp := pc_pos c (by omega)
            rintro v1 rfl
            generalize hs' : (s * 1103 + 12345) % 1000003 = s'
            have hs3 : s' < 1000003 := by omega
            refine ev_ones (by omega) Tm.wt (by omega) ?_
            refine bk173_97 Tm.wt S3.1 S3.1 S3.1 ?_
            rw [nI_l (by omega), pk_lRem (by omega) (by omega) (by omega), lN_i]
            refine ⟨?_, ?_⟩
            · intro e
              have e' := (lN_eq (b := 0) (by omega) (by omega)).mp e
              omega
            obtain ⟨t1, t2, t3⟩ := kthB_ok (n := s' % pcN b) hb (Nat.mod_lt _ hpp)
            refine ev_drawn (by omega) Tm.wt S3.1 (by omega) t1 t2 t3 ?_
            obtain ⟨u1, u2⟩ := hr _ t2
            have rs' := rs s' (kthB b (s' % pcN b)) c (by rw [← hs', Nat.mul_comm]) rfl
            rw [rs'] at r1 r2
            generalize kthB b (s' % pcN b) = t at *
            refine bk173_103 Tm.wt S3.1 S3.1 ?_
            refine ev_fireNow (by omega) Tm.wt S3.1 S3.2.1 a3 (by omega) ?_
            have Tn := (mTo.rf (A := fun k => k = 64 * o + 4) (F := fun _ _ => False) Tm.wt).sI (k := 64 * o + 4) (g := moved (m3.2.2.1 (64 * o + 4)) tk pt 0 t P) rfl
            have S4 := S3.mk' (mk := frd tk pt mk t) Tn (fun p hp => by rw [rdI_same]; exact moved_mk a3 g5 u2 p hp) (frd_99 a3 g6 u2)
            refine bk173_106 Tn.wt S4.1 ?_
            simp (disch := omega) only [forall_eq, l2, l3, l4, l9, l10, l11, l12, l20, l30, l80, l90, l99, l100, l110, l200, l240, l252, l300, l1024, l1M, nI_mul, nIle, nI_ltI, nIeq, nIx10, n10x, nI_add, nI_clamp, nIin_iff, nIinc, nIlt0, nIeq0, nIle0, nIle1, n1lt, n0lt, nIeq1, bz_0, Classical.not_not]
            refine ev_canBy (base := 0) (by omega) Tn.wt S4.1 S4.2.1 a3 (Tn.wt.arr S4.1 3 rfl (by decide)) (by omega) (by decide) (fun p hp => by rw [Nat.zero_add]; exact S4.2.2.2.2.1 p (by omega)) S4.2.2.2.2.2.1 ?_
            refine bk173_118 Tn.wt S4.1 ?_
            refine ih s' (frd tk pt mk t) _ (Tm.tr Tn) S4 hs3 ?_ r2
            have r1' : (rnk P T tk pt (w - (k + 1)) s' (frd tk pt mk t)).1 + 1 + k = _ := r1
            omega
      · rw [cif_f c3, cif_f (fun z => c3 z.2)] at hQ
        exact hQ m1 hok S1
    · have q : ¬ okR y z := fun h => c2 (okR_in.mpr h).2
      rw [cif_f q, cif_f (fun z => q z.1)] at hQ
      exact hQ m1 hok S1
theorem ev_countM {y : Int32} {len : Nat} (hd : 2 ≤ d) (hT : mWT m) (hS : mS m o P T tk pt fi V) (hX : iF m o 2 = nI len) (hQ : Q (some (.int (countA P T len V y))) (mSetF m o 0 (.int 0))) : mEv d 240 [.ref o, .int y] m Q := by
  obtain ⟨S1, T1⟩ := hS.th hT
  have hX' : iF (mSetF m o 0 (.int 0)) o 2 = nI len := by rw [iF_nf (by decide)]; exact hX
  refine mEv.at (by omega) G240 (Nat.le_of_ble_eq_true rfl) ?_
  unfold countA at hQ
  refine bk240_0 hT hS.1 ?_
  rintro m1 rfl
  generalize mSetF m o 0 (.int 0) = m1 at *
  obtain ⟨a1, a2, a3, a4, a5, a6, a7, a8, a9, b1, b2, b3, b4⟩ := id S1
  refine ⟨fun c => ?_, fun c => ⟨fun c2 => ?_, fun c2 => ⟨fun c3 => ?_, fun c3 => ⟨fun c4 => ?_, fun c4 => ⟨fun c5 => ?_, fun c5 => ?_⟩⟩⟩⟩⟩
  · rw [cif_t c] at hQ; rw [a2.1]; exact hQ
  · rw [cif_f c, cif_t c2] at hQ; rw [a2.2.1]; exact hQ
  · rw [cif_f c, cif_f c2, cif_t c3] at hQ
    refine ev_allTok (by omega) T1.wt a1 a2 a3.1 a5 a6 ?_
    exact bk240_54 T1.wt a1 hQ
  · rw [cif_f c, cif_f c2, cif_f c3, cif_t c4] at hQ; rw [hX']; exact hQ
  · rw [cif_f c, cif_f c2, cif_f c3, cif_f c4, cif_t c5] at hQ; rw [b1]; exact hQ
  · rw [cif_f c, cif_f c2, cif_f c3, cif_f c4, cif_f c5] at hQ; exact hQ
end MACT
