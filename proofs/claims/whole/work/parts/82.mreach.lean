/-! The model's reach(): contracts. -/
def mrR (m : mMem) (o P : Nat) (S : rcS) : Prop := iF m o 33 = nI S.1 ∧ (∀ k, k < S.1 → ∀ p, p < 10 → m.2.2.1 (64 * o + 15) (10 * k + p) = nI (S.2.1 k p)) ∧ (∀ k, k < S.1 → m.2.2.1 (64 * o + 16) k = oI S.2.2.1 k) ∧ (∀ k, k < S.1 → m.2.2.1 (64 * o + 17) k = oI S.2.2.2.1 k) ∧ (∀ k, k < S.1 → m.2.2.1 (64 * o + 18) k = nI (S.2.2.2.2.1 k))
def mnR (m : mMem) (o P T : Nat) (tk pt : Nat → Nat → Nat) (S : rcS) (i t : Nat) : Prop := ∀ k u, u < T → (k < i ∨ (k = i ∧ u < t)) → m.2.2.1 (64 * o + 19) (10 * k + u) = cif (rdyS P tk pt (S.2.1 k) u) (nI (S.2.2.2.2.2 k u)) (-1)
def mRch (m : mMem) (o P T : Nat) (tk pt : Nat → Nat → Nat) (S : rcS) : Prop := rcOk P S ∧ mrR m o P S ∧ (S.1 ≤ 300 → mnR m o P T tk pt S S.1 0 ∧ ∀ k u, k < S.1 → u < T → rdyS P tk pt (S.2.1 k) u → S.2.2.2.2.2 k u < S.1)
def mgA (o k : Nat) : Prop := 64 * o + 15 ≤ k ∧ k ≤ 64 * o + 19
def mgF (o k f : Nat) : Prop := k = o ∧ f = 33
def mgG (o k f : Nat) : Prop := k = o ∧ (f = 27 ∨ f = 33)
section MRC
variable {d o n P T N r lr : Nat} {tk pt : Nat → Nat → Nat} {fi mk row : Nat → Nat} {h : Nat → Nat → Nat} {V : aV} {S : rcS} {m : mMem} {Q : Option Value → mMem → Prop}
theorem mrR.to {A : Nat → Prop} {F : Nat → Nat → Prop} {m' : mMem} (h : mrR m o P S) (ht : mTo A F m m') (h1 : ∀ i, 15 ≤ i ∧ i ≤ 18 → ¬ A (64 * o + i)) (h5 : ¬ F o 33) : mrR m' o P S := by
  obtain ⟨r2, r3, r4, r5, r6⟩ := h
  refine ⟨by rw [ht.nf h5]; exact r2, ?_, ?_, ?_, ?_⟩
  · rw [ht.i (h1 15 (by omega))]; exact r3
  · rw [ht.i (h1 16 (by omega))]; exact r4
  · rw [ht.i (h1 17 (by omega))]; exact r5
  · rw [ht.i (h1 18 (by omega))]; exact r6
theorem ev_known (hd : 1 ≤ d) (hT : mWT m) (hO : m.1 o = some (.inr 8) ∧ o ≠ 0) (h6 : iF m o 6 = nI P) (h33 : iF m o 33 = nI N) (hP : P ≤ 10) (hN : N ≤ 300) (hv : ∀ k, k < N → ∀ p, p < 10 → m.2.2.1 (64 * o + 15) (10 * k + p) = nI (h k p)) (hr : ∀ p, p < 10 → m.2.2.1 (64 * o + 15) (10 * N + p) = nI (row p)) (hv2 : ∀ k p, h k p ≤ 99) (hr2 : ∀ p, row p ≤ 99)
    (hQ : Q (some (.int (nI (lsN (fun k => rSame P (h k) row) N)))) m) : mEv d 192 [.ref o] m Q := by
  refine mEv.at (by omega) G192 (Nat.le_of_ble_eq_true rfl) ?_
  refine bk192_0 hT hO ?_
  refine upto (e := N) (X := fun j => ∀ (o2 o3 : Option Value), (∀ q, q < j → ¬ rSame P (h q) row) → mEs (d - 1) 192 o g192 (2, [some (.ref o), some (.int (nI j)), o2, o3], [], m) Q) ?_ ?_ 0 (Nat.zero_le _) _ _ (fun q hq => absurd hq (Nat.not_lt_zero _))
  · intro o2 o3 hq
    refine bk192_2 hT hO ?_
    rw [h33, nIle (by omega) (by omega)]
    rw [lsN_eq (C := fun k => rSame P (h k) row) (Nat.le_refl _) (fun h => by omega) hq] at hQ
    exact ⟨fun _ => hQ, fun c => absurd (Nat.le_refl _) c⟩
  · intro j hj ih o2 o3 hq
    refine bk192_2 hT hO ?_
    rw [h33, nIle (by omega) (by omega)]
    refine ⟨fun c => by omega, fun _ => ?_⟩
    refine upto (e := P) (X := fun p => ∀ b : Int32, b = bz (∀ q, q < p → h j q = row q) → mEs (d - 1) 192 o g192 (14, [some (.ref o), some (.int (nI j)), some (.int b), some (.int (nI p))], [], m) Q) ?_ ?_ 0 (Nat.zero_le _) _ (bz_t (fun q hq => absurd hq (Nat.not_lt_zero _))).symm
    · intro b hb
      refine bk192_14 hT hO ?_
      rw [h6, nIle (by omega) (by omega), hb, bz_0, nIinc]
      refine ⟨fun _ => ⟨fun cb => ?_, fun cb => ?_⟩, fun c => absurd (Nat.le_refl _) c⟩
      · rintro v rfl
        refine ih _ _ (fun q hq' => ?_)
        by_cases e : q = j
        · subst e; exact cb
        · exact hq q (by omega)
      · rw [lsN_eq (C := fun k => rSame P (h k) row) (show j ≤ N by omega) (fun _ => Classical.not_not.mp cb) hq] at hQ
        exact hQ
    · intro p hp ih2 b hb
      have a1 := hv2 j p
      have a2 := hr2 p
      refine bk192_14 hT hO ?_
      simp (disch := omega) only [forall_eq, l2, l3, l4, l9, l10, l11, l12, l20, l30, l80, l90, l99, l100, l110, l200, l240, l252, l300, l1024, l1M, nI_mul, nIle, nI_ltI, nIeq, nIx10, n10x, nI_add, nI_clamp, nIin_iff, nIinc, nIlt0, nIeq0, nIle0, nIle1, n1lt, n0lt, nIeq1, bz_0, Classical.not_not, h6, h33, hv j hj p (by omega), hr p (by omega)]
      refine ⟨fun c => by omega, fun _ => ⟨fun cb => ih2 0 ?_, fun cb => ⟨by omega, by omega, fun c2 => ih2 0 ?_, fun c2 => ih2 1 ?_⟩⟩⟩
      · rw [hb, bz_0] at cb
        exact (bz_f (fun z => cb (fun q hq => z q (by omega)))).symm
      · exact (bz_f (fun z => c2 (z p (Nat.lt_succ_self _)))).symm
      · rw [hb, bz_n0] at cb
        refine (bz_t (fun q hq => ?_)).symm
        by_cases e : q = p
        · subst e; exact c2
        · exact cb q (by omega)
theorem frd_val {v a b : Nat} (h : a ≤ v) : nI v + nI b - nI a = nI (v - a + b) := by
  rw [nI_add, pk_sub (by omega)]
  congr 1
  omega
theorem ev_goFrom {i t : Nat} (hd : 2 ≤ d) (hT : mWT m) (hO : m.1 o = some (.inr 8) ∧ o ≠ 0) (hN : mNet m o P T tk pt) (hk : okNet P T tk pt fi) (hR : mrR m o P S) (hok : rcOk P S) (h300 : S.1 ≤ 300) (hi : i < S.1) (ht : t < T) (hrd : rdyS P tk pt (S.2.1 i) t)
    (hQ : ∀ m', mTo (mgA o) (mgF o) m m' → mrR m' o P (rcGo P tk pt S i t) → m'.2.2.1 (64 * o + 19) = upd (m.2.2.1 (64 * o + 19)) (10 * i + t) (nI ((rcGo P tk pt S i t).2.2.2.2.2 i t)) → Q none m') : mEv d 191 [.ref o, .int (nI i), .int (nI t)] m Q := by
  obtain ⟨r2, r3, r4, r5, r6⟩ := id hR
  have hP10 := hk.1
  have hk2 := hk.2.1
  have h99 := hok.2.2.2.1
  have hf99 : ∀ p, frd tk pt (S.2.1 i) t p ≤ 99 := frd_99 hk (h99 i) hrd
  refine mEv.at (by omega) G191 (Nat.le_of_ble_eq_true rfl) ?_
  refine bk191_0 hT hO ?_
  refine upto (e := 10) (X := fun p => ∀ m', mTo (fun k => k = 64 * o + 15) (fun _ _ => False) m m' → (∀ j, j < 10 * S.1 → m'.2.2.1 (64 * o + 15) j = m.2.2.1 (64 * o + 15) j) → (∀ q, q < p → m'.2.2.1 (64 * o + 15) (10 * S.1 + q) = nI (frd tk pt (S.2.1 i) t q)) → mEs (d - 1) 191 o g191 (2, [some (.ref o), some (.int (nI i)), some (.int (nI t)), some (.int (nI p))], [], m') Q) ?_ ?_ 0 (Nat.zero_le _) m (mTo.rf hT) (fun _ _ => rfl) (fun q hq => absurd hq (Nat.not_lt_zero _))
  · intro m' T' y1 y2
    have z33 : iF m' o 33 = nI S.1 := by rw [T'.nf id]; exact r2
    refine bk191_2 T'.wt (T'.ob hO) ⟨fun _ => ?_, fun c => absurd (by decide) c⟩
    refine ev_known (h := S.2.1) (N := S.1) (row := frd tk pt (S.2.1 i) t) (by omega) T'.wt (T'.ob hO) (by rw [T'.nf id]; exact hN.1) z33 hP10 h300 (fun k hk' p hp => by rw [y1 _ (by omega)]; exact r3 k hk' p hp) y2 h99 hf99 ?_
    have hle : rcTo P S (frd tk pt (S.2.1 i) t) ≤ S.1 := rcTo_le
    show mEs (d - 1) 191 o g191 (57, [some (.ref o), some (.int (nI i)), some (.int (nI t)), some (.int (nI 10))], [.int (nI (rcTo P S (frd tk pt (S.2.1 i) t)))], m') Q
    refine bk191_57 T'.wt (T'.ob hO) ?_
    rw [l10, nI_mul, nI_add, nI_clamp (by omega), nI_clamp (by omega)]
    refine ⟨(nIin_iff (by omega)).mpr (by omega), fun m1 em1 => ?_⟩
    obtain ⟨t1, a19⟩ := sI1 em1 T'.wt
    rw [T'.i (by omega)] at a19
    have x33 : iF m1 o 33 = nI S.1 := by rw [t1.nf id]; exact z33
    rw [x33, nIeq (by omega) (by omega)]
    have T1 : mTo (mgA o) (mgF o) m m1 := (T'.mono (fun k h => by unfold mgA; omega) (fun _ _ h => h.elim)).tr (t1.mono (fun k h => by unfold mgA; omega) (fun _ _ h => h.elim))
    refine ⟨fun cn => ?_, fun cn => ?_⟩
    · have eg : rcGo P tk pt S i t = rcSet S i t (rcTo P S (frd tk pt (S.2.1 i) t)) := by unfold rcGo; rw [cif_f cn]
      refine hQ m1 T1 ?_ ?_
      · rw [eg]
        refine ⟨x33, fun k hk' p hp => ?_, ?_, ?_, ?_⟩
        · have hk3 : k < S.1 := hk'
          rw [t1.i (by omega), y1 _ (by omega)]; exact r3 k hk' p hp
        · rw [t1.i (by omega), T'.i (by omega)]; exact r4
        · rw [t1.i (by omega), T'.i (by omega)]; exact r5
        · rw [t1.i (by omega), T'.i (by omega)]; exact r6
      · rw [a19, eg]
        show _ = upd _ _ (nI (if i = i ∧ t = t then rcTo P S (frd tk pt (S.2.1 i) t) else _))
        rw [if_pos ⟨rfl, rfl⟩]
    · have cn' := Classical.not_not.mp cn
      have eg : rcGo P tk pt S i t = rcSet (rcNew S i t (frd tk pt (S.2.1 i) t)) i t S.1 := by unfold rcGo; rw [cif_t cn']
      rw [cn'] at a19 ⊢
      refine ⟨(nIin_iff (by omega)).mpr (by omega), fun m3 em3 => ⟨(nIin_iff (by omega)).mpr (by omega), fun m5 em5 => ⟨(nIin_iff (by omega)).mpr (by omega), (nIin_iff (by omega)).mpr (by omega), fun m7 em7 m9 em9 => ?_⟩⟩⟩
      obtain ⟨t3, a16⟩ := sI1 em3 t1.wt
      obtain ⟨t5, a17⟩ := sI1 em5 t3.wt
      obtain ⟨t7, a18⟩ := sI1 em7 t5.wt
      rw [nI_clamp (by omega)] at a18
      obtain ⟨t9, e33⟩ := sF1 em9 t7.wt (t7.ob (t5.ob (t3.ob (T1.ob hO)))) (by decide)
      rw [t7.nf id, t5.nf id, t3.nf id, x33, nIinc] at e33
      rw [t5.i (by omega), t3.i (by omega), t1.i (by omega), T'.i (by omega), r6 i hi, nIinc] at a18
      rw [t3.i (by omega), t1.i (by omega), T'.i (by omega)] at a17
      rw [t1.i (by omega), T'.i (by omega)] at a16
      have T9 : mTo (mgA o) (mgF o) m m9 := (((T1.tr (t3.mono (fun k h => by unfold mgA; omega) (fun _ _ h => h.elim))).tr (t5.mono (fun k h => by unfold mgA; omega) (fun _ _ h => h.elim))).tr (t7.mono (fun k h => by unfold mgA; omega) (fun _ _ h => h.elim))).tr (t9.mono (fun _ h => h.elim) (fun k f h => h))
      refine hQ m9 T9 ?_ ?_
      · rw [eg]
        refine ⟨e33, fun k hk' p hp => ?_, fun k hk' => ?_, fun k hk' => ?_, fun k hk' => ?_⟩
        · have hk3 : k < S.1 + 1 := hk'
          rw [t9.i id, t7.i (by omega), t5.i (by omega), t3.i (by omega), t1.i (by omega)]
          show _ = nI ((if k = S.1 then frd tk pt (S.2.1 i) t else S.2.1 k) p)
          by_cases e : k = S.1
          · rw [if_pos e, e]; exact y2 p hp
          · rw [if_neg e, y1 _ (by omega)]; exact r3 k (by omega) p hp
        · have hk3 : k < S.1 + 1 := hk'
          rw [t9.i id, t7.i (by omega), t5.i (by omega), a16]
          show _ = oI (updN S.2.2.1 S.1 i) k
          by_cases e : k = S.1
          · subst e; rw [up_s, oI_n (by omega), updN_s]
          · rw [up_n e, oI_up e]; exact r4 k (by omega)
        · have hk3 : k < S.1 + 1 := hk'
          rw [t9.i id, t7.i (by omega), a17]
          show _ = oI (updN S.2.2.2.1 S.1 t) k
          by_cases e : k = S.1
          · subst e; rw [up_s, oI_n (by omega), updN_s]
          · rw [up_n e, oI_up e]; exact r5 k (by omega)
        · have hk3 : k < S.1 + 1 := hk'
          rw [t9.i id, a18]
          show _ = nI (updN S.2.2.2.2.1 S.1 (S.2.2.2.2.1 i + 1) k)
          by_cases e : k = S.1
          · subst e; rw [up_s, updN_s]
          · rw [up_n e, updN_n e]; exact r6 k (by omega)
      · rw [t9.i id, t7.i (by omega), t5.i (by omega), t3.i (by omega), a19, eg]
        show _ = upd _ _ (nI (if i = i ∧ t = t then S.1 else _))
        rw [if_pos ⟨rfl, rfl⟩]
  · intro p hp ih m' T' y1 y2
    have gN := hN.to T' (by omega) (by omega) id id
    have z33 : iF m' o 33 = nI S.1 := by rw [T'.nf id]; exact r2
    refine bk191_2 T'.wt (T'.ob hO) ?_
    rw [z33, l10, nIle (by omega) (by omega), nI_mul, nI_mul, nI_add, nI_add, nI_clamp (by omega), y1 _ (by omega), r3 i hi p hp]
    refine ⟨fun c => by omega, fun _ => ⟨(nIin_iff (by omega)).mpr (by omega), ?_⟩⟩
    have A15 : m'.1 (64 * o + 15) = some (.inl (.int, 3010)) ∧ 64 * o + 15 ≠ 0 := T'.wt.arr (T'.ob hO) 14 rfl (by decide)
    refine ev_ptM (by omega) T'.wt (T'.ob hO) gN (by omega) (by omega) ?_
    refine bk191_38 T'.wt (T'.ob hO) A15 ?_
    refine ev_tkM (by omega) T'.wt (T'.ob hO) gN (by omega) (by omega) ?_
    refine bk191_45 T'.wt (T'.ob hO) A15 ?_
    have hle : tk t p ≤ S.2.1 i p := by
      by_cases q : p < P
      · exact (hrd p q).1
      · rw [(hk.2.2.2.2.2.1 t p (Or.inl (by omega))).1]; omega
    rw [frd_val hle, nI_clamp (by omega), nIinc]
    refine ⟨(nIin_iff (by omega)).mpr (by omega), fun m1 em1 => ?_⟩
    obtain ⟨t1, a15⟩ := sI1 em1 T'.wt
    rintro v rfl
    refine ih m1 (T'.tr t1) (fun j hj => ?_) (fun q hq => ?_)
    · rw [a15, up_n (by omega)]; exact y1 j hj
    · rw [a15]
      by_cases e : q = p
      · subst e; rw [up_s]; rfl
      · rw [up_n (by omega)]; exact y2 q (by omega)
theorem ev_reachM (hd : 4 ≤ d) (hT : mWT m) (hS : mS m o P T tk pt fi V) (h27 : iF m o 27 = 0 ∨ mRch m o P T tk pt (rcZ P T tk pt V.1))
    (hQ : ∀ m', mTo (mgA o) (mgG o) m m' → ¬ iF m' o 27 = 0 → mRch m' o P T tk pt (rcZ P T tk pt V.1) → Q none m') : mEv d 190 [.ref o] m Q := by
  obtain ⟨hO, hN, hk, a4, a5, a6, a7, a8, a9, b1, b2, b3, b4⟩ := id hS
  have hP10 := hk.1
  have hk2 := hk.2.1
  refine mEv.at (by omega) G190 (Nat.le_of_ble_eq_true rfl) ?_
  refine bk190_0 hT hO ⟨fun c => ?_, fun c => ?_⟩
  · intro m1 em1 m3 em3
    obtain ⟨t1, e27⟩ := sF1 em1 hT hO (by decide)
    obtain ⟨t3, e33⟩ := sF1 em3 t1.wt (t1.ob hO) (by decide)
    have T3 : mTo (mgA o) (mgG o) m m3 := (t1.mono (fun _ h => h.elim) (fun k f h => ⟨h.1, by omega⟩)).tr (t3.mono (fun _ h => h.elim) (fun k f h => ⟨h.1, by omega⟩))
    have y27 : iF m3 o 27 = 1 := by rw [t3.nf (by omega)]; exact e27
    clear em1 em3 t1 t3
    have hB := rcB_all (P := P) (T := T) (tk := tk) (pt := pt) (mk := V.1) hk a6
    have fin : ∀ i m', i ≤ 301 → mTo (mgA o) (mgG o) m m' → iF m' o 27 = 1 → ¬ (i < (rcB P T tk pt V.1 i).1 ∧ (rcB P T tk pt V.1 i).1 ≤ 300) → mrR m' o P (rcB P T tk pt V.1 i) → ((rcB P T tk pt V.1 i).1 ≤ 300 → mnR m' o P T tk pt (rcB P T tk pt V.1 i) i 0) → Q none m' := by
      intro i m' hi T' z27 hs hR hX
      have eZ := rcZ_of (P := P) (T := T) (tk := tk) (pt := pt) (mk := V.1) hi hs
      have nx := rcZ_nx (P := P) (T := T) (tk := tk) (pt := pt) (fi := fi) (mk := V.1) hk a6
      refine hQ m' T' (by rw [z27]; decide) ?_
      rw [eZ] at nx ⊢
      exact ⟨(hB i).1, hR, fun h1 => ⟨fun k u hu hku => hX h1 k u hu (by omega), nx h1⟩⟩
    -- the first row
    refine upto (e := 10) (X := fun p => ∀ (o2 : Option Value) (m' : mMem), mTo (fun k => k = 64 * o + 15) (fun _ _ => False) m3 m' → (∀ q, q < p → m'.2.2.1 (64 * o + 15) q = nI (V.1 q)) → mEs (d - 1) 190 o g190 (20, [some (.ref o), some (.int (nI p)), o2], [], m') Q) ?_ ?_ 0 (Nat.zero_le _) _ m3 (mTo.rf T3.wt) (fun q hq => absurd hq (Nat.not_lt_zero _))
    · intro o2 m' T' y1
      have hO3 := T'.ob (T3.ob hO)
      refine bk190_20 T'.wt hO3 ⟨fun _ => ?_, fun c => absurd (by decide) c⟩
      simp only [c0c]
      refine ⟨by decide, fun m4 em4 => ⟨by decide, fun m5 em5 => ⟨by decide, fun m6 em6 => ?_⟩⟩⟩
      obtain ⟨t4, a16⟩ := sI1 em4 T'.wt
      obtain ⟨t5, a17⟩ := sI1 em5 t4.wt
      obtain ⟨t6, a18⟩ := sI1 em6 t5.wt
      have T6 : mTo (mgA o) (mgG o) m m6 := (((T3.tr (T'.mono (fun k h => by unfold mgA; omega) (fun _ _ h => h.elim))).tr (t4.mono (fun k h => by unfold mgA; omega) (fun _ _ h => h.elim))).tr (t5.mono (fun k h => by unfold mgA; omega) (fun _ _ h => h.elim))).tr (t6.mono (fun k h => by unfold mgA; omega) (fun _ _ h => h.elim))
      have z27 : iF m6 o 27 = 1 := by rw [t6.nf id, t5.nf id, t4.nf id, T'.nf id]; exact y27
      have R6 : mrR m6 o P (rcB P T tk pt V.1 0) := by
        refine ⟨by rw [t6.nf id, t5.nf id, t4.nf id, T'.nf id]; exact e33, fun k hk' p hp => ?_, fun k hk' => ?_, fun k hk' => ?_, fun k hk' => ?_⟩
        · have hk3 : k < 1 := hk'
          obtain rfl : k = 0 := by omega
          rw [t6.i (by omega), t5.i (by omega), t4.i (by omega), show 10 * 0 + p = p by omega]
          exact y1 p hp
        · have hk3 : k < 1 := hk'
          obtain rfl : k = 0 := by omega
          rw [t6.i (by omega), t5.i (by omega), a16, up_s]; rfl
        · have hk3 : k < 1 := hk'
          obtain rfl : k = 0 := by omega
          rw [t6.i (by omega), a17, up_s]; rfl
        · have hk3 : k < 1 := hk'
          obtain rfl : k = 0 := by omega
          rw [a18, up_s]; rfl
      clear em4 em5 em6 t4 t5 t6 a16 a17 a18 y1
      refine upto (e := 301) (X := fun i => ∀ (o2 : Option Value) (m' : mMem), mTo (mgA o) (mgG o) m m' → iF m' o 27 = 1 → mrR m' o P (rcB P T tk pt V.1 i) → ((rcB P T tk pt V.1 i).1 ≤ 300 → mnR m' o P T tk pt (rcB P T tk pt V.1 i) i 0) → mEs (d - 1) 190 o g190 (67, [some (.ref o), some (.int (nI i)), o2], [], m') Q) ?_ ?_ 0 (Nat.zero_le _) _ m6 T6 z27 R6 (fun _ k u hu hku => by omega)
      · intro o2 m' T' z27 hR hX
        have h301 := (hB 301).1.2.1
        refine bk190_67 T'.wt (T'.ob hO) ?_
        rw [hR.1, nIle (by omega) (by omega)]
        exact ⟨fun _ => fin 301 m' (Nat.le_refl _) T' z27 (by omega) hR hX, fun c => absurd h301 c⟩
      · intro i hi ih o2 m' T' z27 hR hX
        have h301 := (hB i).1.2.1
        refine bk190_67 T'.wt (T'.ob hO) ?_
        rw [hR.1, nIle (by omega) (by omega), l300, nI_ltI (by omega) (by omega)]
        refine ⟨fun c => fin i m' (by omega) T' z27 (by omega) hR hX, fun cN => ⟨fun c => fin i m' (by omega) T' z27 (by omega) hR hX, fun c300 => ?_⟩⟩
        have eB : rcB P T tk pt V.1 (i + 1) = rcF P tk pt (rcB P T tk pt V.1 i) i T := by
          show cif _ _ _ = _
          rw [cif_t ⟨by omega, by omega⟩]
        have nxt : ∀ (o2 : Option Value) (m4 : mMem), mTo (mgA o) (mgG o) m m4 → iF m4 o 27 = 1 → mrR m4 o P (rcF P tk pt (rcB P T tk pt V.1 i) i T) → ((rcF P tk pt (rcB P T tk pt V.1 i) i T).1 ≤ 300 → mnR m4 o P T tk pt (rcF P tk pt (rcB P T tk pt V.1 i) i T) i T) → mEs (d - 1) 190 o g190 (67, [some (.ref o), some (.int (nI (i + 1))), o2], [], m4) Q := by
          intro o2 m4 T4 w27 wR wX
          refine ih _ m4 T4 w27 (by rw [eB]; exact wR) ?_
          rw [eB]
          intro h1 k u hu hku
          exact wX h1 k u hu (by omega)
        refine upto (e := T) (X := fun t => ∀ m4, mTo (mgA o) (mgG o) m m4 → iF m4 o 27 = 1 → mrR m4 o P (rcF P tk pt (rcB P T tk pt V.1 i) i t) → ((rcF P tk pt (rcB P T tk pt V.1 i) i t).1 ≤ 300 → mnR m4 o P T tk pt (rcF P tk pt (rcB P T tk pt V.1 i) i t) i t) → mEs (d - 1) 190 o g190 (87, [some (.ref o), some (.int (nI i)), some (.int (nI t))], [], m4) Q) ?_ ?_ 0 (Nat.zero_le _) m' T' z27 hR hX
        · intro m4 T4 w27 wR wX
          have z7 : iF m4 o 7 = nI T := by rw [T4.nf (by unfold mgG; omega)]; exact hN.2.1
          refine bk190_87 T4.wt (T4.ob hO) ?_
          rw [z7, nIle (by omega) (by omega), nIinc]
          refine ⟨fun _ => ?_, fun c => absurd (Nat.le_refl _) c⟩
          rintro v rfl
          exact nxt _ m4 T4 w27 wR wX
        · intro t ht ih2 m4 T4 w27 wR wX
          have z7 : iF m4 o 7 = nI T := by rw [T4.nf (by unfold mgG; omega)]; exact hN.2.1
          obtain ⟨w1, w2, w3, _⟩ := rcF_all hk (hB i).1 (show i < (rcB P T tk pt V.1 i).1 by omega) t (by omega)
          have w3i := w3 i (by omega)
          have w301 := w1.2.1
          have est : rcF P tk pt (rcB P T tk pt V.1 i) i (t + 1) = rcSt P tk pt (rcF P tk pt (rcB P T tk pt V.1 i) i t) i t := rfl
          have e301 : 300 < (rcF P tk pt (rcB P T tk pt V.1 i) i t).1 → rcF P tk pt (rcB P T tk pt V.1 i) i T = rcF P tk pt (rcB P T tk pt V.1 i) i t := by
            intro c
            have e := rcF_301 (P := P) (tk := tk) (pt := pt) (S := rcB P T tk pt V.1 i) (i := i) (t := t) c (T - t)
            rw [show t + (T - t) = T by omega] at e
            exact e
          refine bk190_87 T4.wt (T4.ob hO) ?_
          rw [z7, wR.1, nIle (by omega) (by omega), l300, nI_ltI (by omega) (by omega), nIinc, l10, nI_mul, nI_add, nI_clamp (by omega)]
          refine ⟨fun c => by omega, fun _ => ⟨fun c => ?_, fun c => ⟨(nIin_iff (by omega)).mpr (by omega), fun m5 em5 => ?_⟩⟩⟩
          · rintro v rfl
            have e := e301 c
            exact nxt _ m4 T4 w27 (by rw [e]; exact wR) (by rw [e]; intro z; omega)
          · obtain ⟨t5, a19⟩ := sI1 em5 T4.wt
            have T5 : mTo (mgA o) (mgG o) m m5 := T4.tr (t5.mono (fun k h => by unfold mgA; omega) (fun _ _ h => h.elim))
            have wX' := wX (by omega)
            generalize rcF P tk pt (rcB P T tk pt V.1 i) i t = S' at *
            have R5 := wR.to t5 (by omega) id
            have gN5 := hN.to T5 (by unfold mgA; omega) (by unfold mgA; omega) (by unfold mgG; omega) (by unfold mgG; omega)
            have u27 : iF m5 o 27 = 1 := by rw [t5.nf id]; exact w27
            have h99 := w1.2.2.2.1
            refine ev_canM (v := S'.2.1 i) (most := 99) (by omega) T5.wt (T5.ob hO) gN5 hk (T5.wt.arr (T5.ob hO) 14 rfl (by decide)) (by omega) (by decide) (fun p hp => R5.2.1 i (by omega) p (by omega)) (fun p => by have := h99 i p; omega) (by omega) (by omega) ?_
            rw [bz_cg (canS_99 (h99 i))]
            refine bk190_132 T5.wt (T5.ob hO) ?_
            rw [bz_0]
            refine ⟨fun cr => ?_, fun cr => ?_⟩
            · have e : rcF P tk pt (rcB P T tk pt V.1 i) i (t + 1) = S' := by
                rw [est]; unfold rcSt; rw [cif_f (fun z => cr z.2)]
              refine bk190_141 T5.wt (T5.ob hO) ?_
              rintro v rfl
              rw [nIinc]
              refine ih2 m5 T5 u27 (by rw [e]; exact R5) ?_
              rw [e]
              intro h1 k u hu hku
              rw [a19]
              by_cases e2 : k = i ∧ u = t
              · rw [e2.1, e2.2, up_s, cif_f cr]
              · rw [up_n (by omega)]; exact wX' k u hu (by omega)
            · have cr' := Classical.not_not.mp cr
              have e : rcF P tk pt (rcB P T tk pt V.1 i) i (t + 1) = rcGo P tk pt S' i t := by
                rw [est]; unfold rcSt; rw [cif_t ⟨by omega, cr'⟩]
              obtain ⟨g1, g2, g3⟩ := rcSt_all (S := S') (i := i) (t := t) hk w1 (by omega) ht
              rw [← est, e] at g1 g2 g3
              have gnx : ∀ k u, ¬ (k = i ∧ u = t) → (rcGo P tk pt S' i t).2.2.2.2.2 k u = S'.2.2.2.2.2 k u := by
                intro k u hne
                unfold rcGo
                by_cases q : rcTo P S' (frd tk pt (S'.2.1 i) t) = S'.1
                · rw [cif_t q]; exact if_neg hne
                · rw [cif_f q]; exact if_neg hne
              refine ev_goFrom (S := S') (by omega) T5.wt (T5.ob hO) gN5 hk R5 w1 (by omega) (by omega) ht cr' ?_
              intro m6 t6 R6 a19'
              have T6 : mTo (mgA o) (mgG o) m m6 := T5.tr (t6.mono (fun k h => h) (fun k f h => ⟨h.1, Or.inr h.2⟩))
              refine bk190_141 T6.wt (T6.ob hO) ?_
              rintro v rfl
              rw [nIinc]
              refine ih2 m6 T6 (by rw [t6.nf (by unfold mgF; omega)]; exact u27) (by rw [e]; exact R6) ?_
              rw [e]
              intro h1 k u hu hku
              rw [a19', a19]
              by_cases e2 : k = i ∧ u = t
              · rw [e2.1, e2.2, up_s, cif_t (by rw [g3 i (by omega)]; exact cr')]
              · rw [up_n (by omega), up_n (by omega), gnx k u e2, g3 k (by omega)]
                exact wX' k u hu (by omega)
    · intro p hp ih o2 m' T' y1
      have hO3 := T'.ob (T3.ob hO)
      refine bk190_20 T'.wt hO3 ?_
      rw [l10, nIle (by omega) (by omega), nI_clamp (by omega), nIinc, T'.i (show ¬ 64 * o + 4 = 64 * o + 15 by omega), T3.i (by unfold mgA; omega), a5 p hp]
      refine ⟨fun c => by omega, fun _ => ⟨(nIin_iff (by omega)).mpr hp, (nIin_iff (by omega)).mpr (by omega), fun m4 em4 => ?_⟩⟩
      obtain ⟨t4, a15⟩ := sI1 em4 T'.wt
      rintro v rfl
      refine ih _ m4 (T'.tr t4) (fun q hq => ?_)
      rw [a15]
      by_cases e : q = p
      · subst e; rw [up_s]
      · rw [up_n e]; exact y1 q (by omega)
  · rcases h27 with h | h
    · exact absurd h c
    · exact hQ m (mTo.rf hT) c h
end MRC
