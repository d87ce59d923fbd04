/-! What the class answers: ways, siphons, traps, kinds. -/
abbrev seK (m : mMem) (x nv P T : Nat) (tk pt : Nat → Nat → Nat) : Prop := caK m x 13 11 6 nv (fun _ _ => True) (fun m c => setC m c P T (tbS P tk) (tbS P pt))
abbrev seG (x : Nat) (m m' : mMem) : Prop := gFr (fun k f => k = x ∧ f = 13) (gwN (64 * x + 11)) 5 600 m m'
theorem p2I : ∀ P, P ≤ 10 → ((1 : Int32) <<< ((nI P) &&& 31)) = nI (2 ^ P) := by decide +kernel
theorem i01 {y : Int32} : (¬ y < 0 ∧ ¬ 1 < y) ↔ (y = 0 ∨ y = 1) := by
  have e0 : (0 : Int32).toInt = 0 := rfl
  have e1 : (1 : Int32).toInt = 1 := rfl
  rw [← Int32.toInt_inj, ← Int32.toInt_inj, Int32.lt_iff_toInt_lt, Int32.lt_iff_toInt_lt, e0, e1]
  omega
section CPUS
variable {d x n mv nv P T : Nat} {tk pt : Nat → Nat → Nat} {fi : Nat → Nat} {V : aV} {m m' : mMem} {Q : Option Value → mMem → Prop}
theorem seG.rf (hT : mWT m) : seG x m m := (gFr.rf hT).mono (fun _ _ z => z) (fun _ z => z) (by omega) (by omega)
theorem seG.cs (h : seG x m m') (hS : cS m x n P T tk pt fi V) (hn : ∀ a, gwN n a → ¬ gwN (64 * x + 11) a) : cS m' x n P T tk pt fi V :=
  hS.fr h hn (fun _ z => hS.ne z.1) (fun a h1 h2 => by have := hS.1.2; unfold gwN at h2; omega) (fun f hf z => by omega)
theorem ev_wayC {y : Int32} (hd : 8 ≤ d) (hT : mWT m) (hS : cS m x n P T tk pt fi V) (hv : iF m x 8 = nI mv) (h0 : 0 < P → 0 < mv) (hm9 : mv < 2 ^ 31) (hn : ∀ a, gwN n a → ¬ gwN (64 * x + 8) a) (hC : reK m x mv P T tk pt V)
    (hQ : ∀ m', reG x m m' → reK m' x mv P T tk pt V → Q (some (.int (wayA P (rcZ P T tk pt V.1) V.2.1 y))) m') : mEv d 75 [.ref x, .int y] m Q := by
  obtain ⟨hO, hnx, hN, hk, s1, s2, s3, s4, s5, s6, s7, s8⟩ := id hS
  have h10 := hk.1
  have hno : ¬ (0 < P ∧ -1 ≤ y) → Q (some (.int (-1))) m := by
    intro c
    have q := hQ m (reG.rf hT) hC
    unfold wayA at q
    rw [cif_f c] at q
    exact q
  refine mEv.at (by omega) G75 (Nat.le_of_ble_eq_true rfl) ?_
  refine bk75_0 hT hO ?_
  refine ev_hasNet (by omega) hT hS ?_
  refine bk75_4 hT hO ?_
  rw [bz_0]
  refine ⟨fun c => hno (fun h => c h.1), fun c => ⟨fun c2 => ?_, fun c2 => hno (fun h => c2 h.2)⟩⟩
  refine ev_now58 (by omega) hT hS hv (h0 (Classical.not_not.mp c)) hm9 hn hC ?_
  intro m1 R hC1 hok
  have q := hQ m1 R hC1
  unfold wayA at q
  rw [cif_t ⟨Classical.not_not.mp c, c2⟩] at q
  have hS1 := reG.cs R hS hn
  refine bk75_18 R.wt hS1.1 hok.1 ?_
  generalize rcZ P T tk pt V.1 = S at q hok
  obtain ⟨b1, b2, b3, b3b, b4 | ⟨b4, b5, b6, b7⟩⟩ := id hok
  · rw [b4.2]
    refine ⟨fun e => absurd e (by decide), fun _ => ?_⟩
    rw [cif_f (by omega)] at q
    exact q
  · rw [b5]
    rw [cif_t b4] at q
    refine ⟨fun _ => ?_, fun e => absurd rfl e⟩
    obtain ⟨r1, r2, r3, r4, r5, r6, r7, r8, r9⟩ := id b6
    refine ev_find (r := 64 * x + 5) (lr := 10) (row := V.2.1) (N := S.1) (h := S.2.1) (by omega) R.wt hok.1 r1 h10 b4 r4 b2.2.2.2.1 r9 (R.wt.arr hS1.1 1 rfl (by decide)) (by omega) hS1.2.2.2.2.2.2.1 s4 (fun k1 => ?_) (fun a k1 k2 => ?_)
    · rw [cif_t (rcTo_no k1)] at q
      exact bk75_37 R.wt hS1.1 hok.1 ⟨fun e => absurd rfl e, fun _ => q⟩
    · rw [rcTo_eq b2 k1 k2, cif_f (by omega)] at q
      unfold wayT at q
      refine bk75_37 R.wt hS1.1 hok.1 ⟨fun _ => ⟨fun cy => ?_, fun cy => ?_⟩, fun e => absurd (neg1_ne (show a < 2 ^ 31 by omega)) e⟩
      · rw [cif_f cy] at q
        exact ev_stepTo (by omega) R.wt hok b4 k1 (bk75_66 R.wt hS1.1 hok.1 q)
      · rw [cif_t (Classical.not_not.mp cy)] at q
        refine ⟨(nIin_iff (by omega)).mpr (by omega), ?_⟩
        rw [nI_clamp (by omega), r8 a k1]
        exact bk75_66 R.wt hS1.1 hok.1 q
theorem ev_leastC {y z : Int32} (hd : 8 ≤ d) (hT : mWT m) (hS : cS m x n P T tk pt fi V) (hv : iF m x 7 = nI nv) (h0 : 0 < P → 0 < nv) (hm9 : nv < 2 ^ 31) (hn : ∀ a, gwN n a → ¬ gwN (64 * x + 11) a) (hC : seK m x nv P T tk pt)
    (hQ : ∀ m', seG x m m' → seK m' x nv P T tk pt → Q (some (.int (leastA P T tk pt y z))) m') : mEv d 96 [.ref x, .int y, .int z] m Q := by
  obtain ⟨hO, hnx, hN, hk, s1, s2, s3, s4, s5, s6, s7, s8⟩ := id hS
  have h10 := hk.1
  unfold leastA at hQ
  have hno : ¬ (0 < P ∧ (y = 0 ∨ y = 1) ∧ -1 ≤ z) → Q (some (.int (-1))) m := by
    intro c
    have q := hQ m (seG.rf hT) hC
    rw [cif_f c] at q
    exact q
  refine mEv.at (by omega) G96 (Nat.le_of_ble_eq_true rfl) ?_
  refine bk96_0 hT hO ?_
  refine ev_hasNet (by omega) hT hS ?_
  refine bk96_4 hT hO ?_
  rw [bz_0]
  refine ⟨fun c => hno (fun h => c h.1), fun c => ⟨fun c2 => hno (fun h => (i01.mpr h.2.1).1 c2), fun c2 => ⟨fun c3 => hno (fun h => (i01.mpr h.2.1).2 c3), fun c3 => ⟨fun c4 => ?_, fun c4 => hno (fun h => c4 h.2.2)⟩⟩⟩⟩
  refine ev_now97 (by omega) hT hS hv (h0 (Classical.not_not.mp c)) hm9 hn hC ?_
  intro m1 R hC1 hok
  have q := hQ m1 R hC1
  rw [cif_t ⟨Classical.not_not.mp c, i01.mp ⟨c2, c3⟩, c4⟩] at q
  have hS1 := seG.cs R hS hn
  refine bk96_27 R.wt hS1.1 hok.1 ⟨fun c5 => ?_, fun c5 => ?_⟩
  · rw [cif_f c5] at q
    exact ev_setTell (by omega) R.wt hok h10 (bk96_47 R.wt hS1.1 hok.1 q)
  · rw [cif_t (Classical.not_not.mp c5)] at q
    exact ev_setCount (by omega) R.wt hok h10 (bk96_38 R.wt hS1.1 hok.1 (bk96_47 R.wt hS1.1 hok.1 q))
theorem ev_trapC {y : Int32} (hd : 8 ≤ d) (hT : mWT m) (hS : cS m x n P T tk pt fi V) (hv : iF m x 7 = nI nv) (h0 : 0 < P → 0 < nv) (hm9 : nv < 2 ^ 31) (hn : ∀ a, gwN n a → ¬ gwN (64 * x + 11) a) (hC : seK m x nv P T tk pt)
    (hQ : ∀ m', seG x m m' → seK m' x nv P T tk pt → Q (some (.int (trapA P T tk pt y))) m') : mEv d 108 [.ref x, .int y] m Q := by
  obtain ⟨hO, hnx, hN, hk, s1, s2, s3, s4, s5, s6, s7, s8⟩ := id hS
  have h10 := hk.1
  have hp2 := p2_10 h10
  unfold trapA at hQ
  have hno : ¬ (0 < P ∧ pIx (2 ^ P) y) → Q (some (.int (-1))) m := by
    intro c
    have q := hQ m (seG.rf hT) hC
    rw [cif_f c] at q
    exact q
  refine mEv.at (by omega) G108 (Nat.le_of_ble_eq_true rfl) ?_
  refine bk108_0 hT hO ?_
  refine ev_hasNet (by omega) hT hS ?_
  refine bk108_4 hT hO ?_
  rw [bz_0]
  have hneg : pIx (2 ^ P) y → ¬ y < 0 := by
    rintro ⟨j, hj, rfl⟩
    rw [nIlt0 (by omega)]
    exact id
  refine ⟨fun c => hno (fun h => c h.1), fun c => ⟨fun c2 => hno (fun h => hneg h.2 c2), fun c2 => ⟨n, hnx, hN.1, ?_⟩⟩⟩
  rw [hN.2.1, p2I P h10]
  obtain ⟨j, hj, rfl⟩ := nI_of c2
  rw [nI_ltI (by omega) (by omega)]
  refine ⟨fun c3 => ?_, fun c3 => hno (fun h => ?_)⟩
  · refine ev_now97 (by omega) hT hS hv (h0 (Classical.not_not.mp c)) hm9 hn hC ?_
    intro m1 R hC1 hok
    have q := hQ m1 R hC1
    rw [cif_t ⟨Classical.not_not.mp c, j, c3, rfl⟩, nI_clamp (by omega)] at q
    have hS1 := seG.cs R hS hn
    refine bk108_30 R.wt hS1.1 hok.1 ?_
    exact ev_gTrap (by omega) R.wt hok hk.2.1 (fun t => tbS_lt h10 t) (fun t => tbS_lt h10 t) (by omega) (bk108_34 R.wt hS1.1 q)
  · obtain ⟨i, hi, e⟩ := h.2
    rw [nIeq (by omega) (by omega)] at e
    omega
theorem ev_caughtC (hd : 8 ≤ d) (hT : mWT m) (hS : cS m x n P T tk pt fi V) (hv : iF m x 7 = nI nv) (h0 : 0 < P → 0 < nv) (hm9 : nv < 2 ^ 31) (hn : ∀ a, gwN n a → ¬ gwN (64 * x + 11) a) (hC : seK m x nv P T tk pt)
    (hQ : ∀ m', seG x m m' → seK m' x nv P T tk pt → Q (some (.int (caughtA P T tk pt V.1))) m') : mEv d 117 [.ref x] m Q := by
  obtain ⟨hO, hnx, hN, hk, s1, s2, s3, s4, s5, s6, s7, s8⟩ := id hS
  have h10 := hk.1
  unfold caughtA at hQ
  refine mEv.at (by omega) G117 (Nat.le_of_ble_eq_true rfl) ?_
  refine bk117_0 hT hO ?_
  refine ev_hasNet (by omega) hT hS ?_
  refine bk117_4 hT hO ?_
  rw [bz_n0]
  refine ⟨fun c => ?_, fun c => ?_⟩
  · refine ev_now97 (by omega) hT hS hv (h0 c) hm9 hn hC ?_
    intro m1 R hC1 hok
    have q := hQ m1 R hC1
    rw [cif_t c] at q
    have hS1 := seG.cs R hS hn
    refine bk117_13 R.wt hS1.1 hok.1 ?_
    refine ev_allMarked (lr := 64 * x + 4) (n := 10) (mk := V.1) (by omega) R.wt hok h10 hk.2.1 (fun t => tbS_lt h10 t) (fun t => tbS_lt h10 t) (R.wt.arr hS1.1 0 rfl (by decide)) (by omega) hS1.2.2.2.2.1 s2 ?_
    refine bk117_20 R.wt hS1.1 ⟨fun e => ?_, fun e => ?_⟩
    · rw [e] at q; exact q
    · rw [bz_t (bz_n0.mp e)] at q; exact q
  · have q := hQ m (seG.rf hT) hC
    rw [cif_f c] at q
    exact q
theorem ev_kindsC (hd : 8 ≤ d) (hT : mWT m) (hS : cS m x n P T tk pt fi V) (hQ : Q (some (.int (kindsA P T tk pt))) m) : mEv d 110 [.ref x] m Q := by
  obtain ⟨hO, hnx, hN, hk, s1, s2, s3, s4, s5, s6, s7, s8⟩ := id hS
  unfold kindsA at hQ
  refine mEv.at (by omega) G110 (Nat.le_of_ble_eq_true rfl) ?_
  refine bk110_0 hT hO ?_
  refine ev_hasNet (by omega) hT hS ?_
  refine bk110_4 hT hO ?_
  rw [bz_n0]
  refine ⟨fun c => ⟨n, hnx, hN.1, ?_⟩, fun c => ?_⟩
  · rw [cif_t c] at hQ
    have k5 : ∀ v : Int32, v = cif (kPlain T tk pt) 1 0 + cif (kPure P T tk pt) 2 0 + cif (kMach P T tk pt) 4 0 + cif (kCirc P T tk pt) 8 0 → mEs (d - 1) 110 x g110 (80, [some (.ref x)], [.int (bz (kFree P T tk)), .int v], m) Q := by
      rintro v rfl
      refine bk110_80 hT hO ⟨fun e => ?_, fun e => ?_⟩
      · rw [cif_f (C := kFree P T tk) (bz_0.mp e)] at hQ; exact hQ
      · rw [cif_t (C := kFree P T tk) (bz_n0.mp e)] at hQ; exact hQ
    have k4 : ∀ v : Int32, v = cif (kPlain T tk pt) 1 0 + cif (kPure P T tk pt) 2 0 + cif (kMach P T tk pt) 4 0 → mEs (d - 1) 110 x g110 (63, [some (.ref x)], [.int (bz (kCirc P T tk pt)), .int v], m) Q := by
      rintro v rfl
      refine bk110_63 hT hO ⟨fun e => ⟨n, hnx, hN.1, ?_⟩, fun e => ⟨n, hnx, hN.1, ?_⟩⟩
      · exact ev_isFree (by omega) hT hN hk (k5 _ (by rw [cif_f (C := kCirc P T tk pt) (bz_0.mp e)]))
      · exact ev_isFree (by omega) hT hN hk (k5 _ (by rw [cif_t (C := kCirc P T tk pt) (bz_n0.mp e)]))
    have k3 : ∀ v : Int32, v = cif (kPlain T tk pt) 1 0 + cif (kPure P T tk pt) 2 0 → mEs (d - 1) 110 x g110 (47, [some (.ref x)], [.int (bz (kMach P T tk pt)), .int v], m) Q := by
      rintro v rfl
      refine bk110_47 hT hO ⟨fun e => ⟨n, hnx, hN.1, ?_⟩, fun e => ⟨n, hnx, hN.1, ?_⟩⟩
      · exact ev_isCircuit (by omega) hT hN hk (k4 _ (by rw [cif_f (C := kMach P T tk pt) (bz_0.mp e)]))
      · exact ev_isCircuit (by omega) hT hN hk (k4 _ (by rw [cif_t (C := kMach P T tk pt) (bz_n0.mp e)]))
    have k2 : ∀ v : Int32, v = cif (kPlain T tk pt) 1 0 → mEs (d - 1) 110 x g110 (31, [some (.ref x)], [.int (bz (kPure P T tk pt)), .int v], m) Q := by
      rintro v rfl
      refine bk110_31 hT hO ⟨fun e => ⟨n, hnx, hN.1, ?_⟩, fun e => ⟨n, hnx, hN.1, ?_⟩⟩
      · exact ev_isMachine (by omega) hT hN hk (k3 _ (by rw [cif_f (C := kPure P T tk pt) (bz_0.mp e)]))
      · exact ev_isMachine (by omega) hT hN hk (k3 _ (by rw [cif_t (C := kPure P T tk pt) (bz_n0.mp e)]))
    refine ev_isPlain (by omega) hT hN hk ?_
    refine bk110_16 hT hO ⟨fun e => ⟨n, hnx, hN.1, ?_⟩, fun e => ⟨n, hnx, hN.1, ?_⟩⟩
    · exact ev_isPure (by omega) hT hN hk (k2 _ (by rw [cif_f (C := kPlain T tk pt) (bz_0.mp e)]))
    · exact ev_isPure (by omega) hT hN hk (k2 _ (by rw [cif_t (C := kPlain T tk pt) (bz_n0.mp e)]))
  · rw [cif_f c] at hQ; exact hQ
end CPUS
