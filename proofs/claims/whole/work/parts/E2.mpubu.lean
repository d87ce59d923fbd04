/-! What the model answers about its unfolding. -/
def uf0 (o k f : Nat) : Prop := ufF o k f ∨ (k = o ∧ f = 0)
section MUNC
variable {P T d o : Nat} {tk pt : Nat → Nat → Nat} {fi : Nat → Nat} {V : aV} {m : mMem} {Q : Option Value → mMem → Prop}
theorem mUnf.to {X : Nat → Prop} {F : Nat → Nat → Prop} {m' : mMem} {mk : Nat → Nat} (h : mUnf m o P T tk pt mk) (ht : mTo X F m m') (h1 : ∀ i, 28 ≤ i → i ≤ 37 → ¬ X (64 * o + i)) (h2 : ¬ F o 46) (h3 : ¬ F o 47) (h4 : ¬ F o 55) : mUnf m' o P T tk pt mk := by
  rcases h with ⟨a, b⟩ | ⟨a, b, c, e, f⟩
  · exact Or.inl ⟨by rw [ht.nf h2]; exact a, b⟩
  · exact Or.inr ⟨by rw [ht.nf h2]; exact a, b, c, e.to ht (fun i g1 g2 => h1 i (by omega) (by omega)) h3, f.to ht (fun i g1 g2 => h1 i (by omega) (by omega)) h4⟩
theorem uf_th (hT : mWT m) (hS : mS m o P T tk pt fi V) (h45 : iF m o 45 = 0 ∨ mUnf m o P T tk pt V.1) : mTo (ufA o) (uf0 o) m (mSetF m o 0 (.int 0)) ∧ (iF (mSetF m o 0 (.int 0)) o 45 = 0 ∨ mUnf (mSetF m o 0 (.int 0)) o P T tk pt V.1) := by
  obtain ⟨S1, T1⟩ := hS.th hT
  exact ⟨T1.mono (fun _ h => h.elim) (fun k f h => Or.inr h), h45.imp (fun h => by rw [iF_nf (by decide)]; exact h) (fun h => h.to T1 (fun _ _ _ z => z) (by omega) (by omega) (by omega))⟩
theorem ev_unf0 (hd : 6 ≤ d) (hT : mWT m) (hS : mS m o P T tk pt fi V) (h45 : iF m o 45 = 0 ∨ mUnf m o P T tk pt V.1)
    (hQ : ∀ m', mTo (ufA o) (uf0 o) m m' → iF m' o 0 = 0 → mS m' o P T tk pt fi V → mUnf m' o P T tk pt V.1 → Q none m') : mEv d 224 [.ref o] (mSetF m o 0 (.int 0)) Q := by
  obtain ⟨S1, T1⟩ := hS.th hT
  obtain ⟨u1, u2⟩ := uf_th hT hS h45
  refine ev_unfold hd T1.wt S1 u2 ?_
  intro m' t' _ hU
  refine hQ m' (u1.tr (t'.mono (fun _ z => z) (fun _ _ z => Or.inl z))) ?_ (S1.to t' (fun i h1 h2 z => by unfold ufA at z; omega) (fun z => by unfold ufA at z; omega) (fun z => by unfold ufF at z; omega) (fun z => by unfold ufF at z; omega) (fun z => by unfold ufF at z; omega) (fun z => by unfold ufF at z; omega)) hU
  rw [t'.nf (fun z => by unfold ufF at z; omega), iF_s]
theorem ev_eventM {y z : Int32} (hd : 8 ≤ d) (hT : mWT m) (hS : mS m o P T tk pt fi V) (h45 : iF m o 45 = 0 ∨ mUnf m o P T tk pt V.1)
    (hQ : ∀ m', mTo (ufA o) (uf0 o) m m' → iF m' o 0 = 0 → (iF m' o 45 = 0 ∨ mUnf m' o P T tk pt V.1) → Q (some (.int (eventA P T tk pt V.1 y z))) m') : mEv d 223 [.ref o, .int y, .int z] m Q := by
  obtain ⟨u1, u2⟩ := uf_th hT hS h45
  obtain ⟨S1, T1⟩ := hS.th hT
  have hno : ¬ askE P y z → Q (some (.int (-1))) (mSetF m o 0 (.int 0)) := by
    intro c
    have q := hQ _ u1 iF_s u2
    unfold eventA at q
    rw [cif_f c] at q
    exact q
  have yes : askE P y z → mEv (d - 1) 224 [.ref o] (mSetF m o 0 (.int 0)) (fun r m' => mEs (d - 1) 223 o g223 (36, [some (.ref o), some (.int y), some (.int z)], r.toList ++ [], m') Q) := by
    intro ask
    refine ev_unf0 (by omega) hT hS h45 ?_
    intro m' T' y0 S' hU
    have q := hQ m' T' y0 (Or.inr hU)
    unfold eventA at q
    rw [cif_t ask] at q
    refine bk223_36 T'.wt S'.1 ?_
    rcases id hU with ⟨b1, b2⟩ | ⟨b1, b2, b3, b4, b5⟩
    · rw [b1]
      refine ⟨fun e => absurd e one0, fun _ => ?_⟩
      rw [cif_t b2] at q
      exact q
    · rw [b1]
      rw [cif_f b2] at q
      have hn9 : ∀ t, t < T → tnS P tk t ≤ 3 := fun t ht => Nat.le_of_not_lt fun g => b2 (Or.inl (Or.inr ⟨t, ht, g⟩))
      generalize uZ P T tk pt V.1 = U at q b3 b4 b5
      have h30 := b3.2.1
      refine ⟨fun _ => ⟨fun c5 => ⟨fun c6 => absurd c5 c6, fun _ => ?_⟩, fun c5 => ?_⟩, fun e => absurd rfl e⟩
      · rw [cif_t c5] at q
        rw [b4.1]; exact q
      · rw [cif_f c5] at q
        obtain ⟨hP, ⟨e, _⟩ | ⟨_, hy, hz⟩⟩ := ask
        · exact absurd e c5
        obtain ⟨j, hj, rfl⟩ := nI_of hy
        obtain ⟨w, hw, rfl⟩ := nI_of hz
        rw [b4.1, nI_ltI hj (by omega)]
        refine ⟨fun hj2 => ?_, fun hj2 => ⟨fun _ => ?_, fun c6 => absurd c5 c6⟩⟩
        · rw [nI_clamp hj, cif_t ((pIx_n (by omega) hj).mpr hj2)] at q
          obtain ⟨e1, e2, e3, e4, e5, e6, e7⟩ := b4.2 j hj2
          have ht := hn9 _ (b3.2.2.2.2 j hj2)
          have hin : mIn (nI j) 31 = true := (nIin_iff hj).mpr (by omega)
          have hpa : uPa U j < 2 ^ 31 := Nat.lt_of_lt_of_le (b3.1.2.1 j hj2).1 (Nat.pow_le_pow_right (by decide) (by omega))
          unfold evT at q
          rw [nI_clamp hj, e1, e2, e3, e4]
          refine ⟨fun q0 => ⟨hin, ?_⟩, fun q0 => ⟨fun q1 => ⟨hin, ?_⟩, fun q1 => ⟨fun q2 => ⟨hin, ?_⟩, fun q2 => ⟨hin, ?_⟩⟩⟩⟩
          · rw [cif_t q0] at q; exact q
          · rw [cif_f q0, cif_t q1] at q
            exact ev_ones (by omega) T'.wt hpa (bk223_116 T'.wt S'.1 q)
          · rw [cif_f q0, cif_f q1, cif_t q2] at q
            rw [bz_0]
            exact ⟨fun g => by rw [bz_f g] at q; exact q, fun g => by rw [bz_t (Classical.not_not.mp g)] at q; exact q⟩
          · rw [cif_f q0, cif_f q1, cif_f q2, nI_clamp hw] at q
            have w0 : w ≠ 0 := fun e => q0 (by rw [e]; rfl)
            have w1 : w ≠ 1 := fun e => q1 (by rw [e]; rfl)
            have w2 : w ≠ 2 := fun e => q2 (by rw [e]; rfl)
            rw [l3, pk_sub (show 3 ≤ w by omega), nIle (by omega) (by omega), nI_mul, nI_add, pk_sub (show 3 ≤ 3 * j + w by omega)]
            refine ⟨fun g => ?_, fun g => ?_⟩
            · rw [cif_f (by omega)] at q; exact q
            · rw [cif_t (by omega)] at q
              refine ⟨(nIin_iff (by omega)).mpr (by omega), ?_⟩
              rw [nI_clamp (by omega), show 3 * j + w - 3 = 3 * j + (w - 3) by omega, e5 (w - 3) (by omega)]
              exact q
        · rw [cif_f (fun p => by have := (pIx_n (by omega) hj).mp p; omega)] at q
          exact q
  refine mEv.at (by omega) G223 (Nat.le_of_ble_eq_true rfl) ?_
  refine bk223_0 hT hS.1 ?_
  rintro m1 rfl
  rw [S1.2.2.2.1, bz_0]
  refine ⟨fun c => hno (fun h => c h.1), fun c => ⟨fun c2 => hno (fun h => ?_), fun c2 => ⟨fun c3 => hno (fun h => ?_), fun c3 => ⟨fun c4 => yes ⟨Classical.not_not.mp c, Or.inr ⟨c4, fun g => c2 ((iM1 c4).mpr g), c3⟩⟩, fun c4 => ⟨fun c5 => yes ⟨Classical.not_not.mp c, Or.inl ⟨Classical.not_not.mp c4, c5⟩⟩, fun c5 => hno (fun h => ?_)⟩⟩⟩⟩⟩
  · rcases h.2 with ⟨e, _⟩ | ⟨e, e2, _⟩
    · rw [e] at c2; exact iM2 c2
    · exact e2 ((iM1 e).mp c2)
  · rcases h.2 with ⟨_, e⟩ | ⟨_, _, e⟩
    · rw [e] at c3; exact absurd c3 (by decide)
    · exact e c3
  · rcases h.2 with ⟨_, e⟩ | ⟨e, _⟩
    · exact c5 e
    · exact c4 e
theorem in01u {z : Int32} : ((0 : Int64) ≤ z.toInt64 ∧ z.toInt64 ≤ (1 : Int64)) ↔ (z = 0 ∨ z = 1) := by
  have e0 : (0 : Int32).toInt = 0 := rfl
  have e1 : (1 : Int32).toInt = 1 := rfl
  have f0 : (0 : Int64).toInt = 0 := rfl
  have f1 : (1 : Int64).toInt = 1 := rfl
  rw [← Int32.toInt_inj, ← Int32.toInt_inj, Int64.le_iff_toInt_le, Int64.le_iff_toInt_le, Int32.toInt_toInt64, e0, e1, f0, f1]
  omega
theorem in00 {z : Int32} : ((0 : Int64) ≤ z.toInt64 ∧ z.toInt64 ≤ (0 : Int64)) ↔ z = 0 := by
  have e0 : (0 : Int32).toInt = 0 := rfl
  have f0 : (0 : Int64).toInt = 0 := rfl
  rw [← Int32.toInt_inj, Int64.le_iff_toInt_le, Int64.le_iff_toInt_le, Int32.toInt_toInt64, e0, f0]
  omega
theorem ev_conditionM {y z : Int32} (hd : 8 ≤ d) (hT : mWT m) (hS : mS m o P T tk pt fi V) (h45 : iF m o 45 = 0 ∨ mUnf m o P T tk pt V.1)
    (hQ : ∀ m', mTo (ufA o) (uf0 o) m m' → iF m' o 0 = 0 → (iF m' o 45 = 0 ∨ mUnf m' o P T tk pt V.1) → Q (some (.int (conditionA P T tk pt V.1 y z))) m') : mEv d 237 [.ref o, .int y, .int z] m Q := by
  obtain ⟨u1, u2⟩ := uf_th hT hS h45
  obtain ⟨S1, T1⟩ := hS.th hT
  have hno : ¬ askC P y z → Q (some (.int (-1))) (mSetF m o 0 (.int 0)) := by
    intro c
    have q := hQ _ u1 iF_s u2
    unfold conditionA at q
    rw [cif_f c] at q
    exact q
  have yes : askC P y z → mEv (d - 1) 224 [.ref o] (mSetF m o 0 (.int 0)) (fun r m' => mEs (d - 1) 237 o g237 (42, [some (.ref o), some (.int y), some (.int z)], r.toList ++ [], m') Q) := by
    intro ask
    refine ev_unf0 (by omega) hT hS h45 ?_
    intro m' T' y0 S' hU
    have q := hQ m' T' y0 (Or.inr hU)
    unfold conditionA at q
    rw [cif_t ask] at q
    refine bk237_42 T'.wt S'.1 ?_
    rcases id hU with ⟨b1, b2⟩ | ⟨b1, b2, b3, b4, b5⟩
    · rw [b1]
      refine ⟨fun e => absurd e one0, fun _ => ?_⟩
      rw [cif_t b2] at q
      exact q
    · rw [b1]
      rw [cif_f b2] at q
      generalize uZ P T tk pt V.1 = U at q b3 b4 b5
      have h30 := b3.2.1
      have h80 := b3.2.2.1
      refine ⟨fun _ => ⟨fun c5 => ⟨fun c6 => absurd c5 c6, fun _ => ?_⟩, fun c5 => ?_⟩, fun e => absurd rfl e⟩
      · rw [cif_t c5] at q
        rw [b5.1]; exact q
      · rw [cif_f c5] at q
        obtain ⟨hP, ⟨e, _⟩ | ⟨_, hy, hz⟩⟩ := ask
        · exact absurd e c5
        obtain ⟨j, hj, rfl⟩ := nI_of hy
        rw [b5.1, nI_ltI hj (by omega)]
        refine ⟨fun hj2 => ?_, fun hj2 => ⟨fun _ => ?_, fun c6 => absurd c5 c6⟩⟩
        · rw [nI_clamp hj, cif_t ((pIx_n (by omega) hj).mpr hj2)] at q
          obtain ⟨e1, e2, e3⟩ := b5.2 j hj2
          have ho := b3.1.1 j hj2
          have hin : mIn (nI j) 81 = true := (nIin_iff hj).mpr (by omega)
          unfold cdT at q
          rw [nI_clamp hj, e1, e2]
          unfold ogV
          refine ⟨fun q0 => ⟨hin, ?_⟩, fun q0 => ⟨hin, ?_⟩⟩
          · rw [cif_f q0] at q
            by_cases h0 : uOr U j = 0
            · rw [cif_t h0] at q
              rw [if_pos h0]
              exact ⟨fun g => absurd rfl g, fun _ => q⟩
            · rw [cif_f h0] at q
              rw [if_neg h0]
              exact ⟨fun _ => ⟨hin, q⟩, fun g => absurd (neg1_ne (show uOr U j - 1 < 2 ^ 31 by omega)) g⟩
          · rw [cif_t (Classical.not_not.mp q0)] at q; exact q
        · rw [cif_f (fun p => by have := (pIx_n (by omega) hj).mp p; omega)] at q
          exact q
  refine mEv.at (by omega) G237 (Nat.le_of_ble_eq_true rfl) ?_
  refine bk237_0 hT hS.1 ?_
  rintro m1 rfl
  rw [S1.2.2.2.1, bz_0]
  refine ⟨fun c => hno (fun h => c h.1), fun c => ⟨fun c2 => hno (fun h => ?_), fun c2 => ⟨fun c4 => ?_, fun c4 => ?_⟩⟩⟩
  · rcases h.2 with ⟨e, _⟩ | ⟨e, e2, _⟩
    · rw [e] at c2; exact iM2 c2
    · exact e2 ((iM1 e).mp c2)
  · refine ev_in (by omega) T1.wt ?_
    refine bk237_33 T1.wt S1.1 ?_
    rw [bz_n0, in01u]
    refine ⟨fun c5 => yes ⟨Classical.not_not.mp c, Or.inr ⟨c4, fun g => c2 ((iM1 c4).mpr g), c5⟩⟩, fun c5 => hno (fun h => ?_)⟩
    rcases h.2 with ⟨e, _⟩ | ⟨_, _, e⟩
    · exact c4 e
    · exact c5 e
  · refine ev_in (by omega) T1.wt ?_
    refine bk237_33 T1.wt S1.1 ?_
    rw [bz_n0, in00]
    refine ⟨fun c5 => yes ⟨Classical.not_not.mp c, Or.inl ⟨Classical.not_not.mp c4, c5⟩⟩, fun c5 => hno (fun h => ?_)⟩
    rcases h.2 with ⟨_, e⟩ | ⟨e, _⟩
    · exact c5 e
    · exact c4 e
theorem ev_atOnceM {y z : Int32} (hd : 8 ≤ d) (hT : mWT m) (hS : mS m o P T tk pt fi V) (h45 : iF m o 45 = 0 ∨ mUnf m o P T tk pt V.1)
    (hQ : ∀ m', mTo (ufA o) (uf0 o) m m' → iF m' o 0 = 0 → (iF m' o 45 = 0 ∨ mUnf m' o P T tk pt V.1) → Q (some (.int (atOnceA P T tk pt V.1 y z))) m') : mEv d 238 [.ref o, .int y, .int z] m Q := by
  obtain ⟨u1, u2⟩ := uf_th hT hS h45
  obtain ⟨S1, T1⟩ := hS.th hT
  have hno : ¬ (0 < P ∧ ¬ y < 0 ∧ ¬ z < 0) → Q (some (.int (-1))) (mSetF m o 0 (.int 0)) := by
    intro c
    have q := hQ _ u1 iF_s u2
    unfold atOnceA at q
    rw [cif_f c] at q
    exact q
  refine mEv.at (by omega) G238 (Nat.le_of_ble_eq_true rfl) ?_
  refine bk238_0 hT hS.1 ?_
  rintro m1 rfl
  rw [S1.2.2.2.1, bz_0, i1le]
  refine ⟨fun c => hno (fun h => c h.1), fun c => ⟨fun c2 => hno (fun h => h.2.1 c2), fun c2 => ⟨fun c3 => ?_, fun c3 => hno (fun h => c3 h.2.2)⟩⟩⟩
  have ask : 0 < P ∧ ¬ y < 0 ∧ ¬ z < 0 := ⟨Classical.not_not.mp c, c2, c3⟩
  refine ev_unf0 (by omega) hT hS h45 ?_
  intro m' T' y0 S' hU
  have q := hQ m' T' y0 (Or.inr hU)
  unfold atOnceA at q
  rw [cif_t ask] at q
  refine bk238_26 T'.wt S'.1 ?_
  rcases id hU with ⟨b1, b2⟩ | ⟨b1, b2, b3, b4, b5⟩
  · rw [b1]
    refine ⟨fun e => absurd e one0, fun _ => ?_⟩
    rw [cif_t b2] at q
    exact q
  · rw [b1]
    rw [cif_f b2] at q
    generalize uZ P T tk pt V.1 = U at q b3 b4 b5
    obtain ⟨j, hj, rfl⟩ := nI_of c2
    obtain ⟨w, hw, rfl⟩ := nI_of c3
    have h80 := b3.2.2.1
    rw [b5.1, nIle (by omega) hj, nIle (by omega) hw]
    rw [pIx_n (by omega) hj, pIx_n (by omega) hw, nI_clamp hj, nI_clamp hw] at q
    refine ⟨fun _ => ⟨fun c4 => ?_, fun c4 => ⟨fun c5 => ?_, fun c5 => ?_⟩⟩, fun e => absurd rfl e⟩
    · rw [cif_f (by omega)] at q; exact q
    · rw [cif_f (by omega)] at q; exact q
    · rw [cif_t (by omega)] at q
      refine ev_canHold (by omega) T'.wt S'.1 b3 b4 b5 (by omega) (by omega) ?_
      refine bk238_58 T'.wt S'.1 ?_
      rw [bz_0]
      refine ⟨fun g => ?_, fun g => ?_⟩
      · rw [bz_f g] at q; exact q
      · rw [bz_t (Classical.not_not.mp g)] at q; exact q
theorem ev_leavesM {y z : Int32} (hd : 8 ≤ d) (hT : mWT m) (hS : mS m o P T tk pt fi V) (h45 : iF m o 45 = 0 ∨ mUnf m o P T tk pt V.1)
    (hQ : ∀ m', mTo (ufA o) (uf0 o) m m' → iF m' o 0 = 0 → (iF m' o 45 = 0 ∨ mUnf m' o P T tk pt V.1) → Q (some (.int (leavesA P T tk pt V.1 y z))) m') : mEv d 239 [.ref o, .int y, .int z] m Q := by
  obtain ⟨u1, u2⟩ := uf_th hT hS h45
  obtain ⟨S1, T1⟩ := hS.th hT
  have h10 := hS.2.2.1.1
  have hno : ¬ (pIx P z ∧ ¬ y < 0) → Q (some (.int (-1))) (mSetF m o 0 (.int 0)) := by
    intro c
    have q := hQ _ u1 iF_s u2
    unfold leavesA at q
    rw [cif_f c] at q
    exact q
  refine mEv.at (by omega) G239 (Nat.le_of_ble_eq_true rfl) ?_
  refine bk239_0 hT hS.1 ?_
  rintro m1 rfl
  refine ev_mPl (by omega) T1.wt S1.1 S1.2.1 h10 _ ?_
  refine bk239_10 T1.wt S1.1 ?_
  rw [bz_0, i1le]
  refine ⟨fun c => hno (fun h => c h.1), fun c => ⟨fun c2 => ?_, fun c2 => hno (fun h => c2 h.2)⟩⟩
  have ask : pIx P z ∧ ¬ y < 0 := ⟨Classical.not_not.mp c, c2⟩
  obtain ⟨w, hw, rfl⟩ := ask.1
  refine ev_unf0 (by omega) hT hS h45 ?_
  intro m' T' y0 S' hU
  have q := hQ m' T' y0 (Or.inr hU)
  unfold leavesA at q
  rw [cif_t ask] at q
  refine bk239_23 T'.wt S'.1 ?_
  rcases id hU with ⟨b1, b2⟩ | ⟨b1, b2, b3, b4, b5⟩
  · rw [b1]
    refine ⟨fun e => absurd e one0, fun _ => ?_⟩
    rw [cif_t b2] at q
    exact q
  · rw [b1]
    rw [cif_f b2] at q
    generalize uZ P T tk pt V.1 = U at q b3 b4 b5
    obtain ⟨j, hj, rfl⟩ := nI_of c2
    have h30 := b3.2.1
    rw [b4.1, nIle (by omega) hj, n10x, nI_add]
    rw [pIx_n (by omega) hj, nI_clamp hj, nI_clamp (by omega)] at q
    refine ⟨fun _ => ⟨fun c4 => ?_, fun c4 => ⟨?_, ?_⟩⟩, fun e => absurd rfl e⟩
    · rw [cif_f (by omega)] at q; exact q
    · exact (nIin_iff (by omega)).mpr (by omega)
    · rw [cif_t (by omega)] at q
      rw [nI_clamp (by omega), (b4.2 j (by omega)).2.2.2.2.2.1 w hw]
      exact q
end MUNC
