/-! What the class answers about the markings that are reached. -/
section CPUR
variable {d x n mv P T : Nat} {tk pt : Nat → Nat → Nat} {fi : Nat → Nat} {V : aV} {m m' : mMem} {Q : Option Value → mMem → Prop}
theorem ev_reachedC {y z : Int32} (hd : 8 ≤ d) (hT : mWT m) (hS : cS m x n P T tk pt fi V) (hv : iF m x 8 = nI mv) (h0 : 0 < P → 0 < mv) (hm9 : mv < 2 ^ 31) (hn : ∀ a, gwN n a → ¬ gwN (64 * x + 8) a) (hC : reK m x mv P T tk pt V)
    (hQ : ∀ m', reG x m m' → reK m' x mv P T tk pt V → Q (some (.int (reachedA P T tk pt (rcZ P T tk pt V.1) y z))) m') : mEv d 57 [.ref x, .int y, .int z] m Q := by
  obtain ⟨hO, hnx, hN, hk, s1, s2, s3, s4, s5, s6, s7, s8⟩ := id hS
  have h10 := hk.1
  have hno : ¬ askR P y z → Q (some (.int (-1))) m := by
    intro c
    have q := hQ m (reG.rf hT) hC
    unfold reachedA at q
    rw [cif_f c] at q
    exact q
  have go : ∀ (C : Prop) (z3 : Int32) (x4 : Option Value), (z3 ≠ 0 ↔ C) → ((0 < P ∧ ¬ y < -1 ∧ C) ↔ askR P y z) → mEs (d - 1) 57 x g57 (50, [some (.ref x), some (.int y), some (.int z), some (.int z3), x4], [.int (bz (0 < P))], m) Q := by
    intro C z3 x4 e1 e2
    refine bk57_50 hT hO ?_
    rw [bz_0]
    refine ⟨fun c => hno (fun h => c h.1), fun c => ⟨fun c2 => hno (fun h => (e2.mpr h).2.1 c2), fun c2 => ⟨fun c3 => ?_, fun c3 => hno (fun h => c3 (e1.mpr (e2.mpr h).2.2))⟩⟩⟩
    have ask := e2.mp ⟨Classical.not_not.mp c, c2, e1.mp c3⟩
    refine ev_now58 (by omega) hT hS hv (h0 ask.1) hm9 hn hC ?_
    intro m1 R hC1 hok
    have q := hQ m1 R hC1
    unfold reachedA at q
    rw [cif_t ask] at q
    have hS1 := reG.cs R hS hn
    refine bk57_68 R.wt hS1.1 hok.1 ?_
    generalize rcZ P T tk pt V.1 = S at q hok
    obtain ⟨b1, b2, b3, b3b, b4 | ⟨b4, b5, b6, b7⟩⟩ := id hok
    · rw [b4.2]
      refine ⟨fun e => absurd e (by decide), fun _ => ?_⟩
      rw [cif_f (by omega)] at q
      exact q
    · rw [b5]
      refine ⟨fun _ => ⟨fun c5 => ?_, fun c5 => ?_⟩, fun e => absurd rfl e⟩
      · rw [cif_t b4, cif_f c5] at q
        refine ev_rTell (by omega) R.wt hok h10 b4 (ask.2.elim (fun h => absurd h.1 c5) (fun h => h.2.2)) ?_
        exact bk57_101 R.wt hS1.1 hok.1 q
      · rw [cif_t b4, cif_t (Classical.not_not.mp c5)] at q
        rw [b6.2.2.1]
        exact bk57_101 R.wt hS1.1 hok.1 q
  refine mEv.at (by omega) G57 (Nat.le_of_ble_eq_true rfl) ?_
  refine bk57_0 hT hO ⟨fun c => ⟨n, hnx, hN.1, ?_⟩, fun c => ⟨fun c2 => ?_, fun c2 => ?_⟩⟩
  · refine ev_hasPl (by omega) hT hN hk _ ?_
    refine bk57_25 hT hO ?_
    rw [bz_n0]
    refine ⟨fun c3 => ?_, fun c3 => ⟨fun c4 => ?_, fun c4 => ⟨fun c5 => ?_, fun c5 => ?_⟩⟩⟩
    · refine ev_hasNet (by omega) hT hS ?_
      refine go True 1 none ⟨fun _ => trivial, fun _ => one0⟩ ⟨fun h => ⟨h.1, Or.inr ⟨c, fun z => h.2.1 ((iM1 c).mpr z), Or.inl c3⟩⟩, fun h => ⟨h.1, fun z => ?_, trivial⟩⟩
      exact h.2.elim (fun e => c e.1) (fun e => e.2.1 ((iM1 c).mp z))
    · refine ev_hasNet (by omega) hT hS ?_
      refine go True 1 none ⟨fun _ => trivial, fun _ => one0⟩ ⟨fun h => ⟨h.1, Or.inr ⟨c, fun z => h.2.1 ((iM1 c).mpr z), Or.inr (Or.inl c4)⟩⟩, fun h => ⟨h.1, fun z => ?_, trivial⟩⟩
      exact h.2.elim (fun e => c e.1) (fun e => e.2.1 ((iM1 c).mp z))
    · refine ev_hasNet (by omega) hT hS ?_
      refine go False 0 none ⟨fun h => h rfl, fun h => h.elim⟩ ⟨fun h => h.2.2.elim, fun h => ?_⟩
      exact h.2.elim (fun e => absurd e.1 c) (fun e => e.2.2.elim (fun e => absurd e c3) (fun e => e.elim (fun e => absurd e c4) (fun e => absurd e c5)))
    · refine ev_hasNet (by omega) hT hS ?_
      refine go True 1 none ⟨fun _ => trivial, fun _ => one0⟩ ⟨fun h => ⟨h.1, Or.inr ⟨c, fun z => h.2.1 ((iM1 c).mpr z), Or.inr (Or.inr (Classical.not_not.mp c5))⟩⟩, fun h => ⟨h.1, fun z => ?_, trivial⟩⟩
      exact h.2.elim (fun e => c e.1) (fun e => e.2.1 ((iM1 c).mp z))
  · refine ev_hasNet (by omega) hT hS ?_
    refine go False 0 none ⟨fun h => h rfl, fun h => h.elim⟩ ⟨fun h => h.2.2.elim, fun h => ?_⟩
    exact h.2.elim (fun e => absurd e.2 c2) (fun e => absurd (Classical.not_not.mp c) e.1)
  · refine ev_hasNet (by omega) hT hS ?_
    refine go True 1 none ⟨fun _ => trivial, fun _ => one0⟩ ⟨fun h => ⟨h.1, Or.inl ⟨Classical.not_not.mp c, Classical.not_not.mp c2⟩⟩, fun h => ⟨h.1, fun z => ?_, trivial⟩⟩
    rw [Classical.not_not.mp c] at z
    exact iM2 z
theorem p4 {y : Int32} : (¬ y < 0 ∧ y ≤ 3) ↔ pIx 4 y := by
  constructor
  · rintro ⟨h1, h2⟩
    obtain ⟨j, hj, rfl⟩ := nI_of h1
    rw [l3, nIle (by omega) (by omega)] at h2
    exact ⟨j, by omega, rfl⟩
  · rintro ⟨j, hj, rfl⟩
    rw [l3, nIle (by omega) (by omega), nIlt0 (by omega)]
    exact ⟨fun h => h.elim, by omega⟩
theorem ev_deadC {y : Int32} (hd : 8 ≤ d) (hT : mWT m) (hS : cS m x n P T tk pt fi V) (hv : iF m x 8 = nI mv) (h0 : 0 < P → 0 < mv) (hm9 : mv < 2 ^ 31) (hn : ∀ a, gwN n a → ¬ gwN (64 * x + 8) a) (hC : reK m x mv P T tk pt V)
    (hQ : ∀ m', reG x m m' → reK m' x mv P T tk pt V → Q (some (.int (deadA P T tk pt (rcZ P T tk pt V.1) y))) m') : mEv d 69 [.ref x, .int y] m Q := by
  obtain ⟨hO, hnx, hN, hk, s1, s2, s3, s4, s5, s6, s7, s8⟩ := id hS
  have h10 := hk.1
  have hno : ¬ (0 < P ∧ pIx 4 y) → Q (some (.int (-1))) m := by
    intro c
    have q := hQ m (reG.rf hT) hC
    unfold deadA at q
    rw [cif_f c] at q
    exact q
  refine mEv.at (by omega) G69 (Nat.le_of_ble_eq_true rfl) ?_
  refine bk69_0 hT hO ?_
  refine ev_hasNet (by omega) hT hS ?_
  refine bk69_4 hT hO ?_
  rw [bz_0]
  refine ⟨fun c => hno (fun h => c h.1), fun c => ⟨fun c2 => hno (fun h => (p4.mpr h.2).1 c2), fun c2 => ⟨fun c3 => ?_, fun c3 => hno (fun h => c3 (p4.mpr h.2).2)⟩⟩⟩
  have ask : 0 < P ∧ pIx 4 y := ⟨Classical.not_not.mp c, p4.mp ⟨c2, c3⟩⟩
  refine ev_now58 (by omega) hT hS hv (h0 ask.1) hm9 hn hC ?_
  intro m1 R hC1 hok
  have q := hQ m1 R hC1
  unfold deadA at q
  rw [cif_t ask] at q
  have hS1 := reG.cs R hS hn
  refine bk69_22 R.wt hS1.1 hok.1 ?_
  generalize rcZ P T tk pt V.1 = S at q hok
  obtain ⟨b1, b2, b3, b3b, b4 | ⟨b4, b5, b6, b7⟩⟩ := id hok
  · rw [b4.2]
    refine ⟨fun e => absurd e (by decide), fun _ => ?_⟩
    rw [cif_f (by omega)] at q
    exact q
  · rw [b5]
    rw [cif_t b4] at q
    refine ⟨fun _ => ⟨fun c5 => ?_, fun c5 => ⟨fun c6 => ?_, fun c6 => ⟨fun c7 => ?_, fun c7 => ?_⟩⟩⟩, fun e => absurd rfl e⟩
    · rw [cif_t c5] at q
      exact ev_countDead (by omega) R.wt hok hk.2.1 b4 (bk69_64 R.wt hS1.1 hok.1 q)
    · rw [cif_f c5, cif_t c6] at q
      exact ev_leastDead (by omega) R.wt hok hk.2.1 b4 (bk69_69 R.wt hS1.1 hok.1 q)
    · rw [cif_f c5, cif_f c6, cif_t c7] at q
      exact ev_comingTo (b := 10) (by omega) R.wt hok b4 (by omega) (bk69_76 R.wt hS1.1 hok.1 q)
    · rw [cif_f c5, cif_f c6, cif_f c7] at q
      exact ev_comingTo (b := 11) (by omega) R.wt hok b4 (by omega) (bk69_83 R.wt hS1.1 hok.1 q)
theorem ev_aliveC {y : Int32} (hd : 8 ≤ d) (hT : mWT m) (hS : cS m x n P T tk pt fi V) (hv : iF m x 8 = nI mv) (h0 : 0 < P → 0 < mv) (hm9 : mv < 2 ^ 31) (hn : ∀ a, gwN n a → ¬ gwN (64 * x + 8) a) (hC : reK m x mv P T tk pt V)
    (hQ : ∀ m', reG x m m' → reK m' x mv P T tk pt V → Q (some (.int (aliveA P T tk pt (rcZ P T tk pt V.1) y))) m') (hPT : 0 < T → 0 < P) : mEv d 73 [.ref x, .int y] m Q := by
  obtain ⟨hO, hnx, hN, hk, s1, s2, s3, s4, s5, s6, s7, s8⟩ := id hS
  have h10 := hk.2.1
  refine mEv.at (by omega) G73 (Nat.le_of_ble_eq_true rfl) ?_
  refine bk73_0 hT hO ⟨n, hnx, hN.1, ?_⟩
  refine ev_hasTr (by omega) hT hN hk _ ?_
  refine bk73_8 hT hO ?_
  rw [bz_n0]
  refine ⟨fun c => ?_, fun c => ?_⟩
  · obtain ⟨j, hj, rfl⟩ := id c
    refine ev_now58 (by omega) hT hS hv (h0 (hPT (by omega))) hm9 hn hC ?_
    intro m1 R hC1 hok
    have q := hQ m1 R hC1
    unfold aliveA at q
    rw [cif_t (C := pIx T (nI j)) c, nI_clamp (by omega)] at q
    have hS1 := reG.cs R hS hn
    refine bk73_17 R.wt hS1.1 hok.1 ?_
    generalize rcZ P T tk pt V.1 = S at q hok
    obtain ⟨b1, b2, b3, b3b, b4 | ⟨b4, b5, b6, b7⟩⟩ := id hok
    · rw [b4.2]
      refine ⟨fun e => absurd e (by decide), fun _ => ?_⟩
      rw [cif_f (by omega)] at q
      exact bk73_35 R.wt hS1.1 hok.1 q
    · rw [b5]
      refine ⟨fun _ => ?_, fun e => absurd rfl e⟩
      rw [cif_t b4] at q
      refine ev_liveness (by omega) R.wt hok b4 (by omega) ?_
      exact bk73_35 R.wt hS1.1 hok.1 q
  · have q := hQ m (reG.rf hT) hC
    unfold aliveA at q
    rw [cif_f (C := pIx T y) c] at q
    exact q
end CPUR
