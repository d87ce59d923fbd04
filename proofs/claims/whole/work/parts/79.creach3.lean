/-! The class Reach: spreading. -/
def rsA (c k : Nat) : Prop := k = 64 * c + 1 ∨ k = 64 * c + 2 ∨ k = 64 * c + 3 ∨ k = 64 * c + 4 ∨ k = 64 * c + 5 ∨ k = 64 * c + 8 ∨ k = 64 * c + 6 ∨ k = 64 * c + 9
def rsF (c k f : Nat) : Prop := k = c ∧ (f = 1 ∨ f = 2)
/-- where transitions lead, as it lies in the class -/
def nxR (m : mMem) (c P T : Nat) (tk pt : Nat → Nat → Nat) (S : rcS) (i t : Nat) : Prop := ∀ k u, u < T → (k < i ∨ (k = i ∧ u < t)) → rdyS P tk pt (S.2.1 k) u → m.2.2.1 (64 * c + 6) (k * 10 + u) = nI (S.2.2.2.2.2 k u)
def rcM (m : mMem) (c P T : Nat) (tk pt : Nat → Nat → Nat) (S : rcS) (i t : Nat) : Prop := (S.1 = 301 ∧ iF m c 2 = 1) ∨ (S.1 ≤ 300 ∧ iF m c 2 = 0 ∧ rcR m c P T tk pt S ∧ nxR m c P T tk pt S i t)
section CRC3
variable {d c n P T N r lr : Nat} {tk pt : Nat → Nat → Nat} {fi mk row : Nat → Nat} {h : Nat → Nat → Nat} {S : rcS} {m : mMem} {Q : Option Value → mMem → Prop}
theorem rcR.to {A : Nat → Prop} {F : Nat → Nat → Prop} {m' : mMem} (h : rcR m c P T tk pt S) (ht : mTo A F m m') (h1 : ∀ i, (1 ≤ i ∧ i ≤ 5) ∨ i = 8 → ¬ A (64 * c + i)) (h4 : ¬ F c 12) (h5 : ¬ F c 13) (h6 : ¬ F c 1) : rcR m' c P T tk pt S := by
  obtain ⟨r1, r2, r3, r4, r5, r6, r7, r8, r9⟩ := h
  refine ⟨by rw [ht.nf h4]; exact r1, by rw [ht.nf h5]; exact r2, by rw [ht.nf h6]; exact r3, ?_, ?_, ?_, ?_, ?_, ?_⟩
  · rw [ht.i (h1 2 (by omega))]; exact r4
  · rw [ht.i (h1 3 (by omega))]; exact r5
  · rw [ht.i (h1 4 (by omega))]; exact r6
  · rw [ht.i (h1 5 (by omega))]; exact r7
  · rw [ht.i (h1 1 (by omega))]; exact r8
  · rw [ht.i (h1 8 (by omega))]; exact r9
theorem ev_rFull {x3 x4 : Int32} (hd : 3 ≤ d) (hT : mWT m) (hO : m.1 c = some (.inr 5) ∧ c ≠ 0) (hNt : m.1 n = some (.inr 2) ∧ n ≠ 0) (hA : m.1 r = some (.inl (.int, lr)) ∧ r ≠ 0) (h1 : iF m c 1 = nI 300) (hQ : ∀ m', mTo (fun _ => False) (fun k f => k = c ∧ f = 2) m m' → iF m' c 2 = 1 → Q (some (.int (-1))) m') : mEv d 61 [.ref c, .ref n, .ref r, .int x3, .int x4] m Q := by
  refine mEv.at (by omega) G61 (Nat.le_of_ble_eq_true rfl) ?_
  refine bk61_0 hT hO hNt hA (by omega) ?_
  rw [h1]
  refine ⟨fun c => absurd c (by decide), fun _ m' em => ?_⟩
  obtain ⟨t1, e1⟩ := sF1 em hT hO (by decide)
  exact hQ m' t1 e1
theorem rcTo_eq {k : Nat} (hok : rcOk P S) (hk : k < S.1) (h : rSame P (S.2.1 k) row) : rcTo P S row = k := by
  refine lsN_eq (by omega) (fun _ => h) (fun j hj q => hok.2.2.2.2.2.1 j k hj hk (fun p hp => ?_))
  rw [q p hp, h p hp]
theorem rcTo_no (h : ∀ k, k < S.1 → ¬ rSame P (S.2.1 k) row) : rcTo P S row = S.1 := lsN_eq (Nat.le_refl _) (fun h => by omega) h
theorem ev_spread {i : Nat} (hd : 4 ≤ d) (hT : mWT m) (hO : m.1 c = some (.inr 5) ∧ c ≠ 0) (hNt : cNet m n P T tk pt fi) (hk : okNet P T tk pt fi) (hnc : n ≠ c) (hR : rcR m c P T tk pt S) (hok : rcOk P S) (hi : i < S.1) (h300 : S.1 ≤ 300) (h2 : iF m c 2 = 0) (hX : nxR m c P T tk pt S i 0)
    (hQ : ∀ m', mTo (rsA c) (rsF c) m m' → rcM m' c P T tk pt (rcF P tk pt S i T) i T → Q none m') : mEv d 64 [.ref c, .ref n, .int (nI i)] m Q := by
  have hP10 := hk.1
  have hk2 := hk.2.1
  refine mEv.at (by omega) G64 (Nat.le_of_ble_eq_true rfl) ?_
  refine bk64_0 hT hO hNt.1 ?_
  refine upto (e := T) (X := fun t => ∀ (o4 : Option Value) (m' : mMem), mTo (rsA c) (rsF c) m m' → rcM m' c P T tk pt (rcF P tk pt S i t) i t → mEs (d - 1) 64 c g64 (2, [some (.ref c), some (.ref n), some (.int (nI i)), some (.int (nI t)), o4], [], m') Q) ?_ ?_ 0 (Nat.zero_le _) _ m (mTo.rf hT) (Or.inr ⟨h300, h2, hR, hX⟩)
  · intro o4 m' T' hM
    have z13 : iF m' c 13 = nI T := by rw [T'.nf (by unfold rsF; omega)]; exact hR.2.1
    refine bk64_2 T'.wt (T'.ob hO) (T'.ob hNt.1) (by omega) ?_
    rw [z13, nIle (by omega) (by omega)]
    exact ⟨fun _ => hQ m' T' hM, fun c => absurd (Nat.le_refl _) c⟩
  · intro t ht ih o4 m' T' hM
    have z13 : iF m' c 13 = nI T := by rw [T'.nf (by unfold rsF; omega)]; exact hR.2.1
    obtain ⟨w1, w2, w3, _⟩ := rcF_all hk hok hi t (by omega)
    refine bk64_2 T'.wt (T'.ob hO) (T'.ob hNt.1) (by omega) ?_
    rw [z13, nIle (by omega) (by omega)]
    refine ⟨fun c => by omega, fun _ => ?_⟩
    rcases id hM with ⟨g1, g2⟩ | ⟨g1, g2, R, X⟩
    · rw [g2]
      refine ⟨fun _ => hQ m' T' ?_, fun c => absurd (by decide) c⟩
      have e := rcF_301 (P := P) (tk := tk) (pt := pt) (S := S) (i := i) (t := t) (by omega) (T - t)
      rw [show t + (T - t) = T by omega] at e
      rw [e]
      exact Or.inl ⟨g1, g2⟩
    · rw [g2]
      refine ⟨fun c => absurd rfl c, fun _ => ?_⟩
      have w3i := w3 i hi
      have est : rcF P tk pt S i (t + 1) = rcSt P tk pt (rcF P tk pt S i t) i t := rfl
      generalize rcF P tk pt S i t = S' at *
      obtain ⟨r1, r2, r3, r4, r5, r6, r7, r8, r9⟩ := id R
      have hbs := bs_small (rdyS P tk pt (S'.2.1 i)) hk2
      rw [nI_clamp (by omega), r5 i (by omega), bit_n (by omega) (by omega), bz_1, bs_tb]
      refine ⟨(nIin_iff (by omega)).mpr (by omega), fun cb => ?_, fun cb => ?_⟩
      · rintro v1 rfl
        rw [nIinc]
        have nr : ¬ rdyS P tk pt (S'.2.1 i) t := fun z => cb ⟨ht, z⟩
        have e : rcF P tk pt S i (t + 1) = S' := by
          rw [est]; unfold rcSt; rw [cif_f (fun z => nr z.2)]
        refine ih _ m' T' ?_
        rw [e]
        refine Or.inr ⟨g1, g2, R, fun k u hu hku hr => X k u hu ?_ hr⟩
        by_cases e2 : k = i ∧ u = t
        · rw [e2.1, e2.2] at hr; exact absurd hr nr
        · omega
      · have hrd : rdyS P tk pt (S'.2.1 i) t := (Classical.not_not.mp cb).2
        have e : rcF P tk pt S i (t + 1) = rcGo P tk pt S' i t := by
          rw [est]; unfold rcSt; rw [cif_t ⟨g1, hrd⟩]
        have h99 := w1.2.2.2.1
        have hf99 : ∀ p, frd tk pt (S'.2.1 i) t p ≤ 99 := frd_99 hk (h99 i) hrd
        simp only [c0c, c10c]
        rw [l10, nI_mul, nI_clamp (by omega)]
        refine ⟨⟨nI_nlt0 (by omega), by decide, by decide, by omega, by omega⟩, fun m2 em2 => ?_⟩
        obtain ⟨t2, a9⟩ := sI1 em2 T'.wt
        have gN := hNt.to T' (by unfold rsA; omega) (by unfold rsA; omega) (by unfold rsA; omega) (by unfold rsF; omega) (by unfold rsF; omega)
        have gN2 := gN.to t2 (by omega) (by omega) (by omega) id id
        have A9 : m2.1 (64 * c + 9) = some (.inl (.int, 10)) ∧ 64 * c + 9 ≠ 0 := t2.wt.arr (t2.ob (T'.ob hO)) 8 rfl (by decide)
        have f9 : ∀ p, p < 10 → m2.2.2.1 (64 * c + 9) p = nI (S'.2.1 i p) := by
          intro p hp
          rw [a9, cp_in (by omega) (by omega), show i * 10 + (p - 0) = i * 10 + p by omega]
          exact r4 i (by omega) p hp
        refine ev_move (by omega) t2.wt gN2 hk A9 (by omega) (by decide) (by omega) (by omega) (by omega) ht ?_
        have f9' := moved_mk (P := P) (T := T) (tk := tk) (pt := pt) (fi := fi) (t := t) hk f9 hrd
        obtain ⟨t3, a9'⟩ := sI1 (m' := mSetI m2 (64 * c + 9) (moved (m2.2.2.1 (64 * c + 9)) tk pt 0 t P)) rfl t2.wt
        rw [← a9'] at f9'
        generalize mSetI m2 (64 * c + 9) (moved (m2.2.2.1 (64 * c + 9)) tk pt 0 t P) = m3 at *
        clear em2 a9 a9'
        have t3' : mTo (fun k => k = 64 * c + 9) (fun _ _ => False) m' m3 := t2.tr t3
        have T3 : mTo (rsA c) (rsF c) m m3 := T'.tr (t3'.mono (fun k h => by unfold rsA; omega) (fun _ _ h => h.elim))
        have R3 := R.to t3' (by omega) id id id
        have gN3 := gN.to t3' (by omega) (by omega) (by omega) id id
        have A3 := t3.ob A9
        clear t2 t3 A9 gN2 f9
        refine bk64_58 T3.wt (T3.ob hO) (T3.ob hNt.1) ?_
        refine ev_find (h := S'.2.1) (N := S'.1) (row := frd tk pt (S'.2.1 i) t) (by omega) T3.wt (T3.ob hO) R3.1 hP10 g1 R3.2.2.2.1 h99 R3.2.2.2.2.2.2.2.2 A3 (Nat.le_refl _) f9' hf99 ?_ ?_
        · intro hno
          have eto := rcTo_no hno
          have eg : rcGo P tk pt S' i t = rcSet (rcNew S' i t (frd tk pt (S'.2.1 i) t)) i t S'.1 := by unfold rcGo; rw [cif_t eto]
          refine bk64_66 T3.wt (T3.ob hO) (T3.ob hNt.1) ⟨fun c => absurd rfl c, fun _ => ?_⟩
          by_cases q : S'.1 = 300
          · refine ev_rFull (by omega) T3.wt (T3.ob hO) (T3.ob hNt.1) A3 (by rw [R3.2.2.1, q]) ?_
            intro m4 t4 e4
            have T4 : mTo (rsA c) (rsF c) m m4 := T3.tr (t4.mono (fun _ h => h.elim) (fun k f h => ⟨h.1, Or.inr h.2⟩))
            refine bk64_95 T4.wt (T4.ob hO) (T4.ob hNt.1) (ly0 := 3000) (T4.wt.arr (T4.ob hO) 5 rfl (by decide)) ?_
            rw [l10, nI_mul, nI_add, nI_clamp (by omega), nIinc]
            refine ⟨(nIin_iff (by omega)).mpr (by omega), fun m5 em5 => ?_⟩
            obtain ⟨t5, a6⟩ := sI1 em5 T4.wt
            rintro v3 rfl
            refine ih _ m5 (T4.tr (t5.mono (fun k h => by unfold rsA; omega) (fun _ _ h => h.elim))) ?_
            rw [e, eg]
            exact Or.inl ⟨by show S'.1 + 1 = 301; omega, by rw [t5.nf id]; exact e4⟩
          · refine ev_rAdd (S := S') (row := frd tk pt (S'.2.1 i) t) (i0 := i) (t0 := t) (d0 := S'.2.2.2.2.1 i + 1) (by omega) T3.wt (T3.ob hO) gN3 hk hnc R3 (by omega) h99 A3 (Nat.le_refl _) (by omega) f9' hf99 hno (by rw [oI_n (by omega), updN_s]) (by rw [oI_n (by omega), updN_s]) (Or.inr ⟨i, by omega, rfl, rfl⟩) ?_
            intro m4 t4 R4
            have T4 : mTo (rsA c) (rsF c) m m4 := T3.tr (t4.mono (fun k h => by unfold raA at h; unfold rsA; omega) (fun k f h => ⟨h.1, Or.inl h.2⟩))
            refine bk64_95 T4.wt (T4.ob hO) (T4.ob hNt.1) (ly0 := 3000) (T4.wt.arr (T4.ob hO) 5 rfl (by decide)) ?_
            rw [l10, nI_mul, nI_add, nI_clamp (by omega), nIinc]
            refine ⟨(nIin_iff (by omega)).mpr (by omega), fun m5 em5 => ?_⟩
            obtain ⟨t5, a6⟩ := sI1 em5 T4.wt
            rintro v3 rfl
            refine ih _ m5 (T4.tr (t5.mono (fun k h => by unfold rsA; omega) (fun _ _ h => h.elim))) ?_
            rw [e, eg]
            refine Or.inr ⟨by show S'.1 + 1 ≤ 300; omega, by rw [t5.nf id, t4.nf (by unfold raF; omega), t3'.nf id]; exact g2, ?_, ?_⟩
            · exact R4.to t5 (by omega) id id id
            · intro k u hu hku hr
              have hr' : rdyS P tk pt ((if k = S'.1 then frd tk pt (S'.2.1 i) t else S'.2.1 k)) u := hr
              rw [if_neg (by omega)] at hr'
              show _ = nI (if k = i ∧ u = t then S'.1 else S'.2.2.2.2.2 k u)
              rw [a6]
              by_cases e2 : k = i ∧ u = t
              · rw [if_pos e2, e2.1, e2.2, up_s]
              · rw [if_neg e2, up_n (by omega), t4.i (by unfold raA; omega), t3'.i (by omega)]
                exact X k u hu (by omega) hr'
        · intro k hk' hs
          have eto := rcTo_eq w1 hk' hs
          have eg : rcGo P tk pt S' i t = rcSet S' i t k := by unfold rcGo; rw [eto, cif_f (by omega)]
          refine bk64_66 T3.wt (T3.ob hO) (T3.ob hNt.1) ?_
          rw [l10, nI_mul, nI_add, nI_clamp (by omega), nIinc]
          refine ⟨fun _ => ⟨(nIin_iff (by omega)).mpr (by omega), fun m5 em5 => ?_⟩, fun c => absurd (neg1_ne (show k < 2 ^ 31 by omega)) c⟩
          obtain ⟨t5, a6⟩ := sI1 em5 T3.wt
          rintro v3 rfl
          refine ih _ m5 (T3.tr (t5.mono (fun k h => by unfold rsA; omega) (fun _ _ h => h.elim))) ?_
          rw [e, eg]
          refine Or.inr ⟨g1, by rw [t5.nf id, t3'.nf id]; exact g2, R3.to t5 (by omega) id id id, ?_⟩
          intro k2 u hu hku hr
          have hr' : rdyS P tk pt (S'.2.1 k2) u := hr
          show _ = nI (if k2 = i ∧ u = t then k else S'.2.2.2.2.2 k2 u)
          rw [a6]
          by_cases e2 : k2 = i ∧ u = t
          · rw [if_pos e2, e2.1, e2.2, up_s]
          · rw [if_neg e2, up_n (by omega), t3'.i (by omega)]
            exact X k2 u hu (by omega) hr'
end CRC3
