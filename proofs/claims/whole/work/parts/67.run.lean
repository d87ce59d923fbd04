/-! run() of the class, count(); the model's acts. -/
theorem rnk_0 {P T s : Nat} {tk pt : Nat → Nat → Nat} {mk : Nat → Nat} {k : Nat} (h : bs (rdyS P tk pt mk) T = 0) : rnk P T tk pt k s mk = (0, mk) := by
  cases k with
  | zero => rfl
  | succ k => exact cif_t h
theorem rnk_s {P T s s' b t : Nat} {tk pt : Nat → Nat → Nat} {mk : Nat → Nat} {k : Nat} (hb : b = bs (rdyS P tk pt mk) T) (h : b ≠ 0) (hs : s' = (1103 * s + 12345) % 1000003) (ht : t = kthB b (s' % pcN b)) : rnk P T tk pt (k + 1) s mk = ((rnk P T tk pt k s' (frd tk pt mk t)).1 + 1, (rnk P T tk pt k s' (frd tk pt mk t)).2) := by
  rw [rnk, ← hs, ← hb, ← ht, cif_f h]
theorem okR_iff {y z : Int32} : okR y z ↔ ¬ y < 0 ∧ ¬ 1000000 ≤ y ∧ ¬ z < 1 ∧ z ≤ 200 := by
  unfold okR
  constructor
  · rintro ⟨⟨j, h1, rfl⟩, k, h2, h3, rfl⟩
    rw [l1M, nIle (by omega) (by omega), show (1 : Int32) = nI 1 from rfl, nI_ltI (by omega) (by omega), l200, nIle (by omega) (by omega)]
    exact ⟨nI_nlt0 (by omega), by omega, by omega, by omega⟩
  · rintro ⟨h1, h2, h3, h4⟩
    refine ⟨?_, ?_⟩
    · rcases pk_ix y (n := 1000000) (by omega) with h | h | h
      · exact absurd h h1
      · exact absurd h h2
      · exact h
    · rcases pk_ix z (n := 201) (by omega) with h | h | ⟨j, h, rfl⟩
      · rw [fa_lt] at h h3
        have e0 : (0 : Int32).toInt = 0 := rfl
        have e1 : (1 : Int32).toInt = 1 := rfl
        omega
      · rw [fa_le] at h h4
        have e0 : (200 : Int32).toInt = 200 := rfl
        rw [nI_toInt (by omega)] at h
        omega
      · rw [show (1 : Int32) = nI 1 from rfl, nI_ltI (by omega) (by omega)] at h3
        exact ⟨j, by omega, by omega, rfl⟩
theorem bs_rdy {P T t : Nat} {tk pt : Nat → Nat → Nat} {mk : Nat → Nat} (h : (bs (rdyS P tk pt mk) T).testBit t = true) : t < T ∧ rdyS P tk pt mk t := (bs_tb _ _ _).mp h
section RUN
variable {d x n P T : Nat} {tk pt : Nat → Nat → Nat} {fi : Nat → Nat} {V : aV} {m : mMem} {Q : Option Value → mMem → Prop}
theorem ev_runC {y z : Int32} (hd : 4 ≤ d) (hT : mWT m) (hS : cS m x n P T tk pt fi V)
    (hQ : ∀ m', cOk x V (runV P T tk pt V y z) m m' → cS m' x n P T tk pt fi (runV P T tk pt V y z) → Q (some (.int (runA P T tk pt V y z))) m') : mEv d 32 [.ref x, .int y, .int z] m Q := by
  obtain ⟨hO, hn, hN, hk, s1, s2, s3, s4, s5, s6, s7, s8⟩ := id hS
  have h10 := hk.1
  have hk2 := hk.2.1
  refine mEv.at (by omega) G32 (Nat.le_of_ble_eq_true rfl) ?_
  refine bk32_0 hT hO ?_
  unfold runA runV at hQ
  by_cases q : okR y z
  · rw [cif_t q] at hQ
    have q' := okR_iff.mp q
    refine ⟨fun c => absurd c q'.1, fun _ => ⟨fun c => absurd c q'.2.1, fun _ => ⟨fun c => absurd c q'.2.2.1, fun _ => ⟨fun _ => ?_, fun c => absurd q'.2.2.2 c⟩⟩⟩⟩
    refine ev_hasNet (by omega) hT hS ?_
    refine bk32_28 hT hO ?_
    rw [bz_n0]
    refine ⟨fun c => ?_, fun c => ?_⟩
    · rw [cif_t c, cif_t ⟨q, c⟩] at hQ
      obtain ⟨⟨s0, e1, rfl⟩, w, e2, e3, rfl⟩ := q
      rw [nI_clamp (by omega), nI_clamp (by omega)] at hQ
      refine ev_keepAct (by omega) hT hS ?_
      intro m' T' z8 S'
      refine bk32_38 T'.wt S'.1 ?_
      refine upto (e := w) (X := fun k => ∀ (s : Nat) (mk : Nat → Nat) (m' : mMem) (o5 o6 : Option Value), mTo (cA x) (cF x) m m' → iF m' x 8 = iF m x 8 + 1 → cS m' x n P T tk pt fi (mk, (pushV V V.1).2) → s < 1000003 → (rnk P T tk pt (w - k) s mk).1 + k = (rnk P T tk pt w s0 V.1).1 → (rnk P T tk pt (w - k) s mk).2 = (rnk P T tk pt w s0 V.1).2 → mEs (d - 1) 32 _ g32 (43, [some (.ref x), some (.int (nI s0)), some (.int (nI w)), some (.int (nI s)), some (.int (nI k)), o5, o6], [], m') Q) ?_ ?_ 0 (Nat.zero_le _) s0 V.1 m' _ _ T' z8 S' (by omega) rfl rfl
      · intro s mk m' o5 o6 T' z8 S' hs r1 r2
        rw [Nat.sub_self] at r1 r2
        refine bk32_43 T'.wt S'.1 ?_
        simp (disch := omega) only [forall_eq, nIle, nI_ltI, nIeq, nI_mul, nIx10, n10x, nI_add, nI_clamp, nIin_iff, nIinc, nIlt0, nIeq0, nIle0, nIle1, n1lt, n0lt, nIeq1, bz_0, Classical.not_not]
        refine ⟨fun _ => ?_, fun c => absurd (Nat.le_refl _) c⟩
        have r1' : 0 + w = (rnk P T tk pt w s0 V.1).1 := r1
        have r2' : mk = (rnk P T tk pt w s0 V.1).2 := r2
        rw [Nat.zero_add] at r1'
        rw [← r1', ← r2'] at hQ
        exact hQ m' ⟨T', Or.inr z8⟩ S'
      · intro k hk' ih s mk m' o5 o6 T' z8 S' hs r1 r2
        obtain ⟨gO, gn, gN, gk, g1, g2, g3, g4, g5, g6, g7, g8⟩ := id S'
        refine bk32_43 T'.wt gO ?_
        simp (disch := omega) only [forall_eq, nIle, nI_ltI, nIeq, nI_mul, nIx10, n10x, nI_add, nI_clamp, nIin_iff, nIinc, nIlt0, nIeq0, nIle0, nIle1, n1lt, n0lt, nIeq1, bz_0, Classical.not_not]
        refine ⟨fun c => by omega, fun _ => ⟨n, gn, gN.1, ?_⟩⟩
        refine ev_readyBits (by omega) T'.wt gN hk (T'.wt.arr gO 0 rfl (by decide)) (by omega) g1 g2 ?_
        refine bk32_60 T'.wt gO ?_
        have hb := bs_small (rdyS P tk pt mk) hk2
        have hr := fun t => bs_rdy (P := P) (T := T) (t := t) (tk := tk) (pt := pt) (mk := mk)
        have er : w - k = (w - (k + 1)) + 1 := by omega
        rw [er] at r1 r2
        have rs := fun s' t => rnk_s (P := P) (T := T) (s := s) (s' := s') (t := t) (tk := tk) (pt := pt) (mk := mk) (k := w - (k + 1)) rfl
        have r0 := fun k => rnk_0 (P := P) (T := T) (s := s) (tk := tk) (pt := pt) (mk := mk) (k := k)
        revert hb hr rs r0
        show (_ < 1024 → (∀ t, (bs (rdyS P tk pt mk) T).testBit t = true → _) → _)
        generalize bs (rdyS P tk pt mk) T = b
        intro hb hr rs r0
        refine ev_bitCount (by omega) T'.wt (by omega) ?_
        refine bk32_67 T'.wt gO ?_
        have hp := pc_le b
        rw [show (1103 : Int32) = nI 1103 from rfl, nI_mul, show (12345 : Int32) = nI 12345 from rfl, nI_add, show (1000003 : Int32) = nI 1000003 from rfl, pk_rem (by omega) (by omega) (by omega)]
        by_cases eb : b = 0
        · refine ⟨fun c => absurd ?_ c, fun _ => ?_⟩
          · rw [eb, pc_0]; rfl
          · rw [r0 _ eb] at r1 r2
            have r1' : 0 + k = (rnk P T tk pt w s0 V.1).1 := r1
            have r2' : mk = (rnk P T tk pt w s0 V.1).2 := r2
            rw [Nat.zero_add] at r1'
            rw [← r1', ← r2'] at hQ
            exact hQ m' ⟨T', Or.inr z8⟩ S'
        · have hpp := pc_pos eb (by omega)
          refine ⟨fun _ => ?_, fun c => absurd (by rw [nIeq0 (by omega)]; omega) c⟩
          rintro v1 rfl
          generalize hs' : (1103 * s + 12345) % 1000003 = s'
          have hs3 : s' < 1000003 := by omega
          refine ⟨n, gn, gN.1, by rw [ne_eq, nIeq0 (by omega)]; omega, ?_⟩
          rw [pk_rem (by omega) (by omega) (by omega)]
          obtain ⟨t1, t2, t3⟩ := kthB_ok (n := s' % pcN b) hb (Nat.mod_lt _ hpp)
          refine ev_bitAt (by omega) T'.wt (by omega) t1 t2 t3 ?_
          obtain ⟨u1, u2⟩ := hr _ t2
          have rs' := rs s' (kthB b (s' % pcN b)) eb hs'.symm rfl
          rw [rs'] at r1 r2
          generalize kthB b (s' % pcN b) = t at *
          refine bk32_107 T'.wt gO gN.1 (T'.wt.arr gO 0 rfl (by decide)) ?_
          refine ev_move (t := t) (by omega) T'.wt gN hk (T'.wt.arr gO 0 rfl (by decide)) (by omega) (by decide) (by omega) (by omega) (by omega) u1 ?_
          have Tm := (mTo.rf (A := fun k => k = 64 * x + 4) (F := fun _ _ => False) T'.wt).sI (k := 64 * x + 4) (g := moved (m'.2.2.1 (64 * x + 4)) tk pt 0 t P) rfl
          have S2 := S'.mk' (mk := frd tk pt mk t) Tm (fun p hp => by rw [rdI_same]; exact moved_mk hk g1 u2 p hp) (frd_99 hk g2 u2)
          refine bk32_110 Tm.wt S2.1 ?_
          simp (disch := omega) only [forall_eq, nIle, nI_ltI, nIeq, nI_mul, nIx10, n10x, nI_add, nI_clamp, nIin_iff, nIinc, nIlt0, nIeq0, nIle0, nIle1, n1lt, n0lt, nIeq1, bz_0, Classical.not_not]
          refine ih s' (frd tk pt mk t) _ _ _ (T'.tr (Tm.mono (fun k h => by unfold cA; omega) (fun k f h => h.elim))) (by rw [Tm.nf id]; exact z8) S2 hs3 ?_ r2
          have r1' : (rnk P T tk pt (w - (k + 1)) s' (frd tk pt mk t)).1 + 1 + k = _ := r1
          omega
    · rw [cif_f c, cif_f (fun z => c z.2)] at hQ
      exact hQ m (cOk.rf hT) hS
  · rw [cif_f q, cif_f (fun z => q z.1)] at hQ
    have hq := hQ m (cOk.rf hT) hS
    refine ⟨fun _ => hq, fun c1 => ⟨fun _ => hq, fun c2 => ⟨fun _ => hq, fun c3 => ⟨fun c4 => ?_, fun _ => hq⟩⟩⟩⟩
    exact absurd (okR_iff.mpr ⟨c1, c2, c3, c4⟩) q
theorem ev_countC {y : Int32} {s len : Nat} {tx : Nat → Nat} (hd : 2 ≤ d) (hT : mWT m) (hS : cS m x n P T tk pt fi V) (hs : m.2.1 x 0 = .ref s) (hX : cTxt m s tx len) (hQ : Q (some (.int (countA P T len V y))) m) : mEv d 145 [.ref x, .int y] m Q := by
  obtain ⟨hO, hn, hN, hk, s1, s2, s3, s4, s5, s6, s7, s8⟩ := id hS
  refine mEv.at (by omega) G145 (Nat.le_of_ble_eq_true rfl) ?_
  unfold countA at hQ
  refine bk145_0 hT hO ⟨fun c => ⟨n, hn, hN.1, ?_⟩, fun c => ⟨fun c2 => ⟨n, hn, hN.1, ?_⟩, fun c2 => ⟨fun c3 => ?_, fun c3 => ⟨fun c4 => ⟨s, hs, hX.1, ?_⟩, fun c4 => ⟨fun c5 => ?_, fun c5 => ?_⟩⟩⟩⟩⟩
  · rw [cif_t c] at hQ; rw [hN.2.1]; exact hQ
  · rw [cif_f c, cif_t c2] at hQ; rw [hN.2.2.1]; exact hQ
  · rw [cif_f c, cif_f c2, cif_t c3] at hQ
    refine ev_tokAll (by omega) hT hS ?_
    exact bk145_56 hT hO hQ
  · rw [cif_f c, cif_f c2, cif_f c3, cif_t c4] at hQ; rw [hX.2.1]; exact hQ
  · rw [cif_f c, cif_f c2, cif_f c3, cif_f c4, cif_t c5] at hQ; rw [s5]; exact hQ
  · rw [cif_f c, cif_f c2, cif_f c3, cif_f c4, cif_f c5] at hQ; exact hQ
end RUN
