/-! The model's node(), bound(), covers(). -/
def mc0 (o k f : Nat) : Prop := k = o ∧ (f = 0 ∨ f = 21 ∨ f = 26)
theorem in1012 {z : Int32} : ((10 : Int64) ≤ z.toInt64 ∧ z.toInt64 ≤ 12) ↔ z = 10 ∨ z = 11 ∨ z = 12 := by
  rw [show (10 : Int64) = lN 10 from rfl, show (12 : Int64) = lN 12 from rfl, in_iff (by omega) (by omega)]
  constructor
  · rintro ⟨j, a, b, rfl⟩
    obtain rfl | rfl | rfl : j = 10 ∨ j = 11 ∨ j = 12 := by omega
    · exact Or.inl rfl
    · exact Or.inr (Or.inl rfl)
    · exact Or.inr (Or.inr rfl)
  · rintro (rfl | rfl | rfl)
    · exact ⟨10, by omega, by omega, rfl⟩
    · exact ⟨11, by omega, by omega, rfl⟩
    · exact ⟨12, by omega, by omega, rfl⟩
theorem in01 {z : Int32} : ((0 : Int64) ≤ z.toInt64 ∧ z.toInt64 ≤ 1) ↔ z = 0 ∨ z = 1 := by
  rw [show (0 : Int64) = lN 0 from rfl, show (1 : Int64) = lN 1 from rfl, in_iff (by omega) (by omega)]
  constructor
  · rintro ⟨j, a, b, rfl⟩
    obtain rfl | rfl : j = 0 ∨ j = 1 := by omega
    · exact Or.inl rfl
    · exact Or.inr rfl
  · rintro (rfl | rfl)
    · exact ⟨0, by omega, by omega, rfl⟩
    · exact ⟨1, by omega, by omega, rfl⟩
section MCV3
variable {d o n P T r lr : Nat} {tk pt : Nat → Nat → Nat} {fi mk : Nat → Nat} {V : aV} {S : cvS} {m : mMem} {Q : Option Value → mMem → Prop}
theorem mCov.to {A : Nat → Prop} {F : Nat → Nat → Prop} {m' : mMem} (h : mCov m o P T tk S) (ht : mTo A F m m') (h1 : ∀ i, 11 ≤ i → i ≤ 14 → ¬ A (64 * o + i)) (h5 : ¬ F o 26) : mCov m' o P T tk S := by
  obtain ⟨a, b, c⟩ := h
  refine ⟨a, b.to ht (h1 11 (by omega) (by omega)) (h1 12 (by omega) (by omega)) (h1 13 (by omega) (by omega)) h5, fun h => ?_⟩
  rw [ht.i (h1 14 (by omega) (by omega))]
  exact c h
/-- cover() behind thrown = 0 -/
theorem ev_cov0 (hd : 5 ≤ d) (hT : mWT m) (hS : mS m o P T tk pt fi V) (h21 : iF m o 21 = 0 ∨ mCov m o P T tk (cvZ P T tk pt V.1))
    (hQ : ∀ m', mTo (mcA o) (mc0 o) m m' → iF m' o 0 = 0 → ¬ iF m' o 21 = 0 → mS m' o P T tk pt fi V → mCov m' o P T tk (cvZ P T tk pt V.1) → Q none m') : mEv d 180 [.ref o] (mSetF m o 0 (.int 0)) Q := by
  obtain ⟨S1, T1⟩ := hS.th hT
  refine ev_cover hd T1.wt S1 ?_ ?_
  · rcases h21 with h | h
    · exact Or.inl (by rw [T1.nf (by omega)]; exact h)
    · exact Or.inr (h.to T1 (fun _ _ _ => id) (by omega))
  · intro m' T2 y21 hC
    refine hQ m' ((T1.mono (A' := mcA o) (F' := mc0 o) (fun _ h => h.elim) (fun k f h => ⟨h.1, Or.inl h.2⟩)).tr (T2.mono (A' := mcA o) (F' := mc0 o) (fun _ h => h) (fun k f h => ⟨h.1, Or.inr h.2⟩))) (by rw [T2.nf (by unfold mcF; omega)]; exact iF_s) y21 (S1.to T2 (fun i h1 h2 => by unfold mcA; omega) (by unfold mcA; omega) (by unfold mcF; omega) (by unfold mcF; omega) (by unfold mcF; omega) (by unfold mcF; omega)) hC
theorem mc0_th (hT : mWT m) (hS : mS m o P T tk pt fi V) : mTo (mcA o) (mc0 o) m (mSetF m o 0 (.int 0)) := (hS.th hT).2.mono (fun _ h => h.elim) (fun k f h => ⟨h.1, Or.inl h.2⟩)
theorem ev_nodeM {y z : Int32} (hd : 6 ≤ d) (hT : mWT m) (hS : mS m o P T tk pt fi V) (h21 : iF m o 21 = 0 ∨ mCov m o P T tk (cvZ P T tk pt V.1))
    (hQ : ∀ m', mTo (mcA o) (mc0 o) m m' → iF m' o 0 = 0 → (iF m' o 21 = 0 ∨ mCov m' o P T tk (cvZ P T tk pt V.1)) → Q (some (.int (nodeA P T tk (cvZ P T tk pt V.1) y z))) m') : mEv d 179 [.ref o, .int y, .int z] m Q := by
  obtain ⟨S1, T1⟩ := hS.th hT
  have h10 := hS.2.2.1.1
  have h21' : iF (mSetF m o 0 (.int 0)) o 21 = 0 ∨ mCov (mSetF m o 0 (.int 0)) o P T tk (cvZ P T tk pt V.1) := by
    rcases h21 with h | h
    · exact Or.inl (by rw [T1.nf (by omega)]; exact h)
    · exact Or.inr (h.to T1 (fun _ _ _ => id) (by omega))
  have hno : ¬ askN P y z → Q (some (.int (-1))) (mSetF m o 0 (.int 0)) := by
    intro c
    have q := hQ _ (mc0_th hT hS) iF_s h21'
    unfold nodeA at q
    rw [cif_f c] at q
    exact q
  have yes : askN P y z → ∀ x3 : Int32, mEv (d - 1) 180 [.ref o] (mSetF m o 0 (.int 0)) (fun r m' => mEs (d - 1) 179 o g179 (71, [some (.ref o), some (.int y), some (.int z), some (.int x3)], r.toList ++ [], m') Q) := by
    intro ask x3
    refine ev_cov0 (by omega) hT hS h21 ?_
    intro m' T' y0 y21 S' hC
    obtain ⟨k1, k2, k3⟩ := id hC
    have q := hQ m' T' y0 (Or.inr hC)
    unfold nodeA at q
    rw [cif_t ask] at q
    generalize cvZ P T tk pt V.1 = S at *
    have h201 := k1.2.1
    refine bk179_71 T'.wt S'.1 ?_
    rw [k2.1, l200, nIle (by omega) (by omega)]
    refine ⟨fun c => ?_, fun c => ?_⟩
    · rw [cif_t c] at q
      refine ⟨fun c1 => ?_, fun c1 => ?_⟩
      · rw [cif_f c1] at q
        rcases ask.2 with h | ⟨_, h0, h3⟩
        · exact absurd h.1 c1
        obtain ⟨j, hj, rfl⟩ := nI_of h0
        rw [nI_ltI (by omega) (by omega)]
        refine ⟨fun c2 => ?_, fun c2 => ?_⟩
        · rw [cif_t ⟨j, c2, rfl⟩, nI_clamp (by omega)] at q
          unfold nodeT at q
          rw [nI_clamp (by omega), k2.2.2.1 j c2, k2.2.2.2 j c2, k3 c j c2, nIin_iff (by omega)]
          refine ⟨fun d1 => ⟨by omega, ?_⟩, fun d1 => ⟨fun d2 => ⟨by omega, ?_⟩, fun d2 => ⟨fun d3 => ⟨by omega, ?_⟩, fun d3 => ?_⟩⟩⟩
          · rw [cif_t d1] at q; exact q
          · rw [cif_f d1, cif_t d2] at q; exact q
          · rw [cif_f d1, cif_f d2, cif_t d3] at q; exact q
          · rw [cif_f d1, cif_f d2, cif_f d3] at q
            rcases h3 with ⟨w, hw, rfl⟩ | h | h | h
            · rw [nI_clamp (by omega)] at q
              simp (disch := omega) only [forall_eq, l2, l3, l4, l9, l10, l11, l12, l20, l30, l80, l90, l99, l100, l110, l200, l240, l252, l300, l1024, l1M, nI_mul, nIle, nI_ltI, nIeq, nIx10, n10x, nI_add, nI_clamp, nIin_iff, nIinc, nIlt0, nIeq0, nIle0, nIle1, n1lt, n0lt, nIeq1, bz_0, Classical.not_not, k2.2.1 j c2 w hw]
              refine ⟨by omega, ?_⟩
              have := k1.2.2.2.1 j w c2
              refine ev_shownM (by omega) T'.wt (by omega) ?_
              exact bk179_167 T'.wt S'.1 q
            · exact absurd h d1
            · exact absurd h d2
            · exact absurd h d3
        · rw [cif_f] at q
          · exact q
          · rintro ⟨w, hw, e⟩
            rw [nIeq (by omega) (by omega)] at e
            omega
      · rw [cif_t (Classical.not_not.mp c1)] at q; exact q
    · rw [cif_f c] at q; exact q
  refine mEv.at (by omega) G179 (Nat.le_of_ble_eq_true rfl) ?_
  refine bk179_0 hT hS.1 ?_
  rintro m1 rfl
  obtain ⟨a1, a2, a3, a4, a5, a6, a7, a8, a9, b1, b2, b3, b4⟩ := id S1
  rw [a4, bz_0]
  refine ⟨fun c => ⟨fun c2 => ?_, fun c2 => ?_⟩, fun c => ⟨fun c2 => ?_, fun c2 => ?_⟩⟩
  · have q := hno (fun h => by
      rcases h.2 with h | h
      · exact c h.1
      · exact h.2.1 c2)
    exact ⟨fun _ => q, fun _ => q⟩
  · refine ev_mPl (by omega) T1.wt a1 a2 h10 _ ?_
    refine bk179_31 T1.wt a1 ?_
    rw [a4, bz_n0, bz_0]
    refine ⟨fun c3 => ⟨fun c4 => hno (fun h => c4 h.1), fun c4 => ?_⟩, fun c3 => ?_⟩
    · exact yes ⟨Classical.not_not.mp c4, Or.inr ⟨c, c2, Or.inl c3⟩⟩ 1
    · refine ev_in (by omega) T1.wt ?_
      rw [bz_cg in1012]
      refine bk179_45 T1.wt a1 ?_
      rw [a4, bz_0, bz_0]
      refine ⟨fun c5 => ?_, fun c5 => ⟨fun c4 => hno (fun h => c4 h.1), fun c4 => ?_⟩⟩
      · have q := hno (fun h => by
          rcases h.2 with h | h
          · exact c h.1
          · rcases h.2.2 with h | h
            · exact c3 h
            · exact c5 h)
        exact ⟨fun _ => q, fun _ => q⟩
      · exact yes ⟨Classical.not_not.mp c4, Or.inr ⟨c, c2, Or.inr (Classical.not_not.mp c5)⟩⟩ 1
  · have q := hno (fun h => by
      rcases h.2 with h | h
      · exact c2 h.2
      · exact h.1 (Classical.not_not.mp c))
    exact ⟨fun _ => q, fun _ => q⟩
  · refine ⟨fun c4 => hno (fun h => c4 h.1), fun c4 => ?_⟩
    exact yes ⟨Classical.not_not.mp c4, Or.inl ⟨Classical.not_not.mp c, Classical.not_not.mp c2⟩⟩ 1
theorem ev_boundM {y : Int32} (hd : 6 ≤ d) (hT : mWT m) (hS : mS m o P T tk pt fi V) (h21 : iF m o 21 = 0 ∨ mCov m o P T tk (cvZ P T tk pt V.1))
    (hQ : ∀ m', mTo (mcA o) (mc0 o) m m' → iF m' o 0 = 0 → (iF m' o 21 = 0 ∨ mCov m' o P T tk (cvZ P T tk pt V.1)) → Q (some (.int (boundA P (cvZ P T tk pt V.1) y))) m') : mEv d 186 [.ref o, .int y] m Q := by
  obtain ⟨S1, T1⟩ := hS.th hT
  have h10 := hS.2.2.1.1
  have h21' : iF (mSetF m o 0 (.int 0)) o 21 = 0 ∨ mCov (mSetF m o 0 (.int 0)) o P T tk (cvZ P T tk pt V.1) := by
    rcases h21 with h | h
    · exact Or.inl (by rw [T1.nf (by omega)]; exact h)
    · exact Or.inr (h.to T1 (fun _ _ _ => id) (by omega))
  unfold boundA at hQ
  refine mEv.at (by omega) G186 (Nat.le_of_ble_eq_true rfl) ?_
  refine bk186_0 hT hS.1 ?_
  rintro m1 rfl
  refine ev_mPl (by omega) T1.wt S1.1 S1.2.1 h10 _ ?_
  refine bk186_10 T1.wt S1.1 ?_
  rw [bz_n0]
  refine ⟨fun c => ?_, fun c => ?_⟩
  · refine ev_cov0 (by omega) hT hS h21 ?_
    intro m' T' y0 y21 S' hC
    obtain ⟨k1, k2, k3⟩ := id hC
    have q := hQ m' T' y0 (Or.inr hC)
    rw [cif_t (show pIx P y from c)] at q
    generalize cvZ P T tk pt V.1 = S at *
    have h201 := k1.2.1
    obtain ⟨p, hp, rfl⟩ := c
    rw [nI_clamp (by omega)] at q
    have hb : ∀ k, k < S.1 → S.2.1 k p ≤ 1000000 := fun k hk => by have := k1.2.2.2.1 k p hk; omega
    refine bk186_19 T'.wt S'.1 ?_
    rw [k2.1, l200, nIle (by omega) (by omega)]
    refine ⟨fun c => ?_, fun c => ?_⟩
    · rw [cif_t c] at q
      refine upto (e := S.1) (X := fun k => mEs (d - 1) 186 _ g186 (36, [some (.ref o), some (.int (nI p)), some (.int (nI (mxN (fun k => S.2.1 k p) k))), some (.int (nI k))], [], m') Q) ?_ ?_ 0 (Nat.zero_le _)
      · refine bk186_36 T'.wt S'.1 ?_
        rw [k2.1, nIle (by omega) (by omega)]
        refine ⟨fun _ => ?_, fun c => absurd (Nat.le_refl _) c⟩
        refine ev_shownM (by omega) T'.wt (mxN_le _ hb) ?_
        exact bk186_85 T'.wt S'.1 q
      · intro k hk ih
        have b1 := hb k hk
        have b2 := mxN_le (f := fun k => S.2.1 k p) k (fun j hj => hb j (by omega))
        refine bk186_36 T'.wt S'.1 ?_
        rw [k2.1]
        simp (disch := omega) only [forall_eq, l2, l3, l4, l9, l10, l11, l12, l20, l30, l80, l90, l99, l100, l110, l200, l240, l252, l300, l1024, l1M, nI_mul, nIle, nI_ltI, nIeq, nIx10, n10x, nI_add, nI_clamp, nIin_iff, nIinc, nIlt0, nIeq0, nIle0, nIle1, n1lt, n0lt, nIeq1, bz_0, Classical.not_not, k2.2.1 k hk p hp]
        have e : mxN (fun k => S.2.1 k p) (k + 1) = if mxN (fun k => S.2.1 k p) k < S.2.1 k p then S.2.1 k p else mxN (fun k => S.2.1 k p) k := rfl
        rw [e] at ih
        refine ⟨fun c => by omega, fun _ => ⟨by omega, fun c2 => ?_, fun c2 => ⟨by omega, ?_⟩⟩⟩
        · rw [if_neg (by omega)] at ih; exact ih
        · rw [if_pos (by omega)] at ih; exact ih
    · rw [cif_f c] at q; exact q
  · have q := hQ _ (mc0_th hT hS) iF_s h21'
    rw [cif_f (C := pIx P y) c] at q
    exact q
theorem ev_covers1 {k : Nat} (hd : 1 ≤ d) (hT : mWT m) (hS : mS m o P T tk pt fi V) (hC : mCov m o P T tk S) (hk : k < S.1) (hQ : Q (some (.int (bz (leP P V.2.1 (S.2.1 k))))) m) : mEv d 188 [.ref o, .int (nI k)] m Q := by
  obtain ⟨k1, k2, k3⟩ := id hC
  obtain ⟨a1, a2, a3, a4, a5, a6, a7, a8, a9, b1, b2, b3, b4⟩ := id hS
  have h201 := k1.2.1
  have hP := a3.1
  refine mEv.at (by omega) G188 (Nat.le_of_ble_eq_true rfl) ?_
  refine bk188_0 hT a1 ?_
  refine upto (e := P) (X := fun p => ∀ b : Int32, b = bz (∀ q, q < p → V.2.1 q ≤ S.2.1 k q) → mEs (d - 1) 188 _ g188 (4, [some (.ref o), some (.int (nI k)), some (.int b), some (.int (nI p))], [], m) Q) ?_ ?_ 0 (Nat.zero_le _) _ (bz_t (fun q hq => absurd hq (Nat.not_lt_zero _))).symm
  · intro b hb
    refine bk188_4 hT a1 ?_
    rw [a2.1]
    simp (disch := omega) only [forall_eq, l2, l3, l4, l9, l10, l11, l12, l20, l30, l80, l90, l99, l100, l110, l200, l240, l252, l300, l1024, l1M, nI_mul, nIle, nI_ltI, nIeq, nIx10, n10x, nI_add, nI_clamp, nIin_iff, nIinc, nIlt0, nIeq0, nIle0, nIle1, n1lt, n0lt, nIeq1, bz_0, Classical.not_not]
    exact ⟨fun _ => ⟨by rw [hb]; exact bz_01 _, by rw [hb]; exact hQ⟩, fun c => absurd (Nat.le_refl _) c⟩
  · intro p hp ih b hb
    have c1 := k1.2.2.2.1 k p hk
    have c2 := a9 p
    refine bk188_4 hT a1 ?_
    rw [a2.1]
    simp (disch := omega) only [forall_eq, l2, l3, l4, l9, l10, l11, l12, l20, l30, l80, l90, l99, l100, l110, l200, l240, l252, l300, l1024, l1M, nI_mul, nIle, nI_ltI, nIeq, nIx10, n10x, nI_add, nI_clamp, nIin_iff, nIinc, nIlt0, nIeq0, nIle0, nIle1, n1lt, n0lt, nIeq1, bz_0, Classical.not_not, k2.2.1 k hk p hp, a8 p (by omega)]
    refine ⟨fun c => by omega, fun _ => ⟨fun c => ih 0 ?_, fun c => ⟨by omega, by omega, fun c2 => ih 0 ?_, fun c2 => ih 1 ?_⟩⟩⟩
    · rw [hb, bz_0] at c
      exact (bz_f (fun z => c (fun q hq => z q (by omega)))).symm
    · exact (bz_f (fun z => by have := z p (Nat.lt_succ_self _); omega)).symm
    · rw [hb, bz_n0] at c
      refine (bz_t (fun q hq => ?_)).symm
      by_cases e : q = p
      · subst e; omega
      · exact c q (by omega)
theorem ev_coversM {y : Int32} (hd : 6 ≤ d) (hT : mWT m) (hS : mS m o P T tk pt fi V) (h21 : iF m o 21 = 0 ∨ mCov m o P T tk (cvZ P T tk pt V.1))
    (hQ : ∀ m', mTo (mcA o) (mc0 o) m m' → iF m' o 0 = 0 → (iF m' o 21 = 0 ∨ mCov m' o P T tk (cvZ P T tk pt V.1)) → Q (some (.int (coversA P (cvZ P T tk pt V.1) V.2.1 y))) m') : mEv d 187 [.ref o, .int y] m Q := by
  obtain ⟨S1, T1⟩ := hS.th hT
  have h10 := hS.2.2.1.1
  have h21' : iF (mSetF m o 0 (.int 0)) o 21 = 0 ∨ mCov (mSetF m o 0 (.int 0)) o P T tk (cvZ P T tk pt V.1) := by
    rcases h21 with h | h
    · exact Or.inl (by rw [T1.nf (by omega)]; exact h)
    · exact Or.inr (h.to T1 (fun _ _ _ => id) (by omega))
  unfold coversA at hQ
  have hno : ¬ (0 < P ∧ (y = 0 ∨ y = 1)) → Q (some (.int (-1))) (mSetF m o 0 (.int 0)) := by
    intro c
    have q := hQ _ (mc0_th hT hS) iF_s h21'
    rw [cif_f c] at q
    exact q
  refine mEv.at (by omega) G187 (Nat.le_of_ble_eq_true rfl) ?_
  refine bk187_0 hT hS.1 ?_
  rintro m1 rfl
  rw [S1.2.2.2.1, bz_0]
  refine ⟨fun c => hno (fun h => c h.1), fun c => ?_⟩
  refine ev_in (by omega) T1.wt ?_
  rw [bz_cg in01]
  refine bk187_19 T1.wt S1.1 ?_
  rw [bz_n0]
  refine ⟨fun c2 => ?_, fun c2 => hno (fun h => c2 h.2)⟩
  refine ev_cov0 (by omega) hT hS h21 ?_
  intro m' T' y0 y21 S' hC
  obtain ⟨k1, k2, k3⟩ := id hC
  have q := hQ m' T' y0 (Or.inr hC)
  rw [cif_t ⟨Classical.not_not.mp c, c2⟩] at q
  generalize cvZ P T tk pt V.1 = S at *
  have h201 := k1.2.1
  refine bk187_28 T'.wt S'.1 ?_
  rw [k2.1, l200, nIle (by omega) (by omega)]
  refine ⟨fun c3 => ?_, fun c3 => ?_⟩
  · rw [cif_t c3] at q
    rintro v1 rfl v2 rfl
    have loop : ∀ u, u ≤ S.1 → ∀ (cnt : Nat) (lst : Int32), cct (fun k => leP P V.2.1 (S.2.1 k)) u + cnt = cct (fun k => leP P V.2.1 (S.2.1 k)) S.1 → ((∃ j, u ≤ j ∧ j < S.1 ∧ leP P V.2.1 (S.2.1 j) ∧ (∀ i, u ≤ i → i < j → ¬ leP P V.2.1 (S.2.1 i)) ∧ lst = nI j) ∨ ((∀ j, u ≤ j → j < S.1 → ¬ leP P V.2.1 (S.2.1 j)) ∧ lst = -3)) → mEs (d - 1) 187 o g187 (54, [some (.ref o), some (.int y), some (.int (nI cnt)), some (.int lst), some (.int (nI u - 1))], [], m') Q := by
      intro u
      induction u with
      | zero =>
        intro _ cnt lst h1 h2
        refine bk187_54 T'.wt S'.1 ⟨fun _ => ⟨fun c4 => ?_, fun c4 => ?_⟩, fun c4 => absurd (by decide) c4⟩
        · rw [cif_f c4] at q
          have h1' : 0 + cnt = _ := h1
          rw [Nat.zero_add] at h1'
          rw [h1']; exact q
        · rw [cif_t (Classical.not_not.mp c4)] at q
          rcases h2 with ⟨j, _, e2, e3, e4, e5⟩ | ⟨e1, e2⟩
          · rw [e5, ← lstC_at (C := fun k => leP P V.2.1 (S.2.1 k)) e3 (fun i hi => e4 i (Nat.zero_le _) hi) S.1 e2]; exact q
          · rw [e2, ← lstC_no (C := fun k => leP P V.2.1 (S.2.1 k)) S.1 (fun j hj => e1 j (Nat.zero_le _) hj)]; exact q
      | succ u ih =>
        intro hu cnt lst h1 h2
        have cl := cct_le (C := fun k => leP P V.2.1 (S.2.1 k)) S.1
        refine bk187_54 T'.wt S'.1 ?_
        rw [nI_pred]
        refine ⟨fun c4 => absurd c4 (nI_nlt0 (by omega)), fun _ => ?_⟩
        refine ev_covers1 (by omega) T'.wt S' hC hu ?_
        refine bk187_65 T'.wt S'.1 ?_
        rw [bz_0, nIinc, ← Int32.sub_eq_add_neg]
        refine ⟨fun c4 => ?_, fun c4 => ?_⟩
        · rintro v1 rfl
          rw [cct_f (C := fun k => leP P V.2.1 (S.2.1 k)) c4] at h1
          refine ih (by omega) cnt lst h1 ?_
          rcases h2 with ⟨j, e1, e2, e3, e4, e5⟩ | ⟨e1, e2⟩
          · refine Or.inl ⟨j, by omega, e2, e3, fun i a b => ?_, e5⟩
            by_cases e : i = u
            · subst e; exact c4
            · exact e4 i (by omega) b
          · refine Or.inr ⟨fun j a b => ?_, e2⟩
            by_cases e : j = u
            · subst e; exact c4
            · exact e1 j (by omega) b
        · rintro v1 rfl v2 rfl
          rw [cct_t (C := fun k => leP P V.2.1 (S.2.1 k)) (Classical.not_not.mp c4)] at h1
          refine ih (by omega) (cnt + 1) (nI u) (by omega) (Or.inl ⟨u, Nat.le_refl _, hu, Classical.not_not.mp c4, fun i a b => by omega, rfl⟩)
    exact loop S.1 (Nat.le_refl _) 0 (-3) rfl (Or.inr ⟨fun j a b => by omega, rfl⟩)
  · rw [cif_f c3] at q; exact q
end MCV3
