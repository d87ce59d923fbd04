/-! The class Unfolding: all events of one size. -/
def feF (c k f : Nat) : Prop := k = c ∧ (f = 1 ∨ f = 2 ∨ f = 3 ∨ f = 18 ∨ f = 19)
section CFE
variable {P T c n s d : Nat} {tk pt : Nat → Nat → Nat} {fi mk : Nat → Nat} {U : uS} {m : mMem} {Q : Option Value → mMem → Prop}
theorem ev_findEvents (hd : 13 ≤ d) (hT : mWT m) (hO : m.1 c = some (.inr 7) ∧ c ≠ 0) (hN : cNet m n P T tk pt fi) (hk : okNet P T tk pt fi) (hn : ∀ a, gwN n a → ¬ gwN c a) (hn9 : ∀ t, t < T → tnS P tk t ≤ 3) (hs : s ≤ 31) (hG : uGd P T tk U) (hR : uRe P T tk pt mk U) (hD : uDn P T tk pt mk U (s * 33554432)) (hE : ucE P tk pt mk m c U) (hC : ucC (tnS P tk) m c U) (h3 : iF m c 3 = 0)
    (hQ1 : ∀ m' V, mTo (pkA c) (feF c) m m' → uGd P T tk V → uRe P T tk pt mk V → uDn P T tk pt mk V ((s + 1) * 33554432) → ucE P tk pt mk m' c V → ucC (tnS P tk) m' c V → iF m' c 3 = 0 → Q none m')
    (hQ2 : ∀ m', mTo (pkA c) (feF c) m m' → iF m' c 3 = 1 → uGr P T tk pt mk → Q none m') : mEv d 130 [.ref c, .ref n, .int (nI s)] m Q := by
  have hT10 := hk.2.1
  have hP10 := hk.1
  have hU80 := hG.2.2.1
  have hnc : n ≠ c := fun e => hn n (Or.inl rfl) (Or.inl e)
  have frm : ∀ {m1}, mTo (pkA c) (feF c) m m1 → cNet m1 n P T tk pt fi := fun T1 => hN.fr (T1.fr (F := fun _ _ => False) (N := gwN c) (fun _ z => by unfold pkA at z; unfold gwN; omega) (fun _ _ z => Or.inr (Or.inl z.1))) hn (fun _ => id)
  refine mEv.at (by omega) G130 (Nat.le_of_ble_eq_true rfl) ?_
  refine bk130_0 hT hO hN.1 ?_
  rintro m1 rfl m2 rfl
  rw [iF_nf (by decide), hC.1]
  have T2 : mTo (pkA c) (feF c) m (mSetF (mSetF m c 18 (.int (nI s))) c 19 (.int (nI (uC U)))) := ((mTo.rf hT).sF hO ⟨rfl, by omega⟩ (by decide)).sF hO ⟨rfl, by omega⟩ (by decide)
  have loop : ∀ k t m1 V, k + t = T → mTo (pkA c) (feF c) m m1 → uRo P T tk pt mk s (uC U) V → uDn P T tk pt mk V (s * 33554432 + t * 2097152) → ucA P tk pt mk m1 c s (uC U) V → mEs (d - 1) 130 c g130 (15, [some (.ref c), some (.ref n), some (.int (nI s)), some (.int (nI t))], [], m1) Q := by
    intro k
    induction k with
    | zero =>
      intro t m1 V ht T1 R1 D1 U1
      obtain rfl : t = T := by omega
      have N1 := frm T1
      refine bk130_15 T1.wt (T1.ob hO) (T1.ob hN.1) (by omega) ?_
      rw [N1.2.2.1]
      refine ⟨fun _ => hQ1 m1 V T1 R1.1 R1.2.1 (D1.up (by omega) (fun L l1 l2 hc => ?_)) U1.1 U1.2.1 U1.2.2.1, fun z => absurd ((nIle (by omega) (by omega)).mpr (Nat.le_refl _)) z⟩
      have := hc.1
      unfold kTr at this
      omega
    | succ k ih =>
      intro t m1 V ht T1 R1 D1 U1
      have N1 := frm T1
      have ht3 := hn9 t (by omega)
      refine bk130_15 T1.wt (T1.ob hO) (T1.ob hN.1) (by omega) ?_
      rw [N1.2.2.1, U1.2.2.1, nIle (by omega) (by omega), l10, nI_mul, nI_clamp (by omega), nI_clamp (by omega), c0c, nIlt0 (by omega), nIlt0 (by omega)]
      refine ⟨fun z => by omega, fun _ => ⟨fun z => absurd rfl z, fun _ => ⟨⟨id, by decide, id, by omega, by omega⟩, ?_⟩⟩⟩
      intro m3 h3'
      have T3 : mTo (pkA c) (feF c) m m3 := by rw [h3']; exact T1.sI (by unfold pkA; omega)
      have U3 : ucA P tk pt mk m3 c s (uC U) V := by rw [h3']; exact ucA_pk U1 (Or.inl rfl)
      have q3 : ∀ p, p < 10 → m3.2.2.1 (64 * c + 11) p = nI (tk t p - uCn V (fun _ => 0) 0 p) := by
        intro p hp
        rw [h3', rdI_same, cp_in (by omega) (by omega), Nat.sub_zero]
        exact N1.2.2.2.1 t (by omega) p hp
      clear h3'
      have N3 := frm T3
      refine ev_takenInAll (by omega) T3.wt N3 hk (by omega) ?_
      refine bk130_56 T3.wt (T3.ob hO) (T3.ob hN.1) (T3.ob hO) (T3.ob hN.1) ?_
      have k0 : kyN s t 0 (fun _ => 0) = s * 33554432 + t * 2097152 := by
        show s * 33554432 + t * 2097152 + 0 * 16384 + 0 * 128 + 0 = _
        omega
      have b0 : bw 0 = 2097152 := rfl
      refine ev_pick (c := c) (n := n) (oc := uC U) (s := s) (t := t) hk hn hn9 (by omega) hU80 hs (tnS P tk t) 0 (fun _ => 0) V m3 (d - 1) _ (by omega) (by omega) T3.wt (T3.ob hO) N3 R1 ⟨fun i hi => by omega, fun i j hi hj => by omega, fun i j hi hj => by omega, fun i hi => by omega, fun p hp => Nat.zero_le _⟩ (by rw [k0]; exact D1) U3 (fun i hi => by omega) q3 ?_ ?_
      · intro m5 V5 t5 R5 S5 D5 U5 _ _
        have T5 : mTo (pkA c) (feF c) m m5 := T3.tr (t5.mono (fun _ z => z) (fun k f z => by unfold aeF at z; unfold feF; omega))
        refine bk130_61 T5.wt (T5.ob hO) (T5.ob hN.1) ?_
        rintro w rfl
        rw [nIinc]
        refine ih (t + 1) m5 V5 (by omega) T5 R5 ?_ U5
        rw [k0, b0] at D5
        rw [show s * 33554432 + (t + 1) * 2097152 = s * 33554432 + t * 2097152 + 2097152 by omega]
        exact D5
      · intro m5 t5 z3 gr _
        have T5 : mTo (pkA c) (feF c) m m5 := T3.tr (t5.mono (fun _ z => z) (fun k f z => by unfold aeF at z; unfold feF; omega))
        refine bk130_61 T5.wt (T5.ob hO) (T5.ob hN.1) ?_
        rintro w rfl
        have q := hQ2 m5 T5 z3 gr
        exact bk130_15 T5.wt (T5.ob hO) (T5.ob hN.1) (by omega) ⟨fun _ => q, fun _ => ⟨fun _ => q, fun z => absurd z3 (fun w => z (by rw [w]; decide))⟩⟩
  refine loop T 0 _ U (by omega) T2 ⟨hG, hR, Nat.le_refl _, fun c2 h1 h2 => by omega⟩ (by rw [Nat.zero_mul, Nat.add_zero]; exact hD) ⟨?_, ?_, ?_, ?_, iF_s⟩
  · obtain ⟨a1, a2, a3, a4⟩ := hE
    exact ⟨by rw [iF_nf (by decide), iF_nf (by decide)]; exact a1, by rw [iF_nf (by decide), iF_nf (by decide)]; exact a2, a3, a4⟩
  · obtain ⟨a1, a2, a3⟩ := hC
    exact ⟨by rw [iF_nf (by decide), iF_nf (by decide)]; exact a1, a2, a3⟩
  · rw [iF_nf (by decide), iF_nf (by decide)]; exact h3
  · rw [iF_nf (by decide), iF_s]
end CFE
