/-! What the class answers about its unfolding. -/
def askE (P : Nat) (y z : Int32) : Prop := 0 < P ∧ ((y = -1 ∧ z = 0) ∨ (¬ y = -1 ∧ ¬ y < 0 ∧ ¬ z < 0))
def askC (P : Nat) (y z : Int32) : Prop := 0 < P ∧ ((y = -1 ∧ z = 0) ∨ (¬ y = -1 ∧ ¬ y < 0 ∧ (z = 0 ∨ z = 1)))
noncomputable def evT (P : Nat) (tk pt : Nat → Nat → Nat) (mk : Nat → Nat) (U : uS) (i : Nat) (z : Int32) : Int32 := cif (z = 0) (nI (uBy U i)) (cif (z = 1) (nI (pcN (uPa U i))) (cif (z = 2) (bz (uCu P tk pt mk U i)) (cif (z.toNatClampNeg < tnS P tk (uBy U i) + 3) (nI (uHs U i (z.toNatClampNeg - 3))) (-3))))
noncomputable def cdT (U : uS) (i : Nat) (z : Int32) : Int32 := cif (z = 0) (nI (uPl U i)) (cif (uOr U i = 0) (-3) (nI (uOr U i - 1)))
def uBad (P T : Nat) (tk pt : Nat → Nat → Nat) (mk : Nat → Nat) : Prop := uTg P T tk mk ∨ uGr P T tk pt mk
noncomputable def eventA (P T : Nat) (tk pt : Nat → Nat → Nat) (mk : Nat → Nat) (y z : Int32) : Int32 := cif (askE P y z) (cif (uBad P T tk pt mk) (-2) (cif (y = -1) (nI (uE (uZ P T tk pt mk))) (cif (pIx (uE (uZ P T tk pt mk)) y) (evT P tk pt mk (uZ P T tk pt mk) y.toNatClampNeg z) (-1)))) (-1)
noncomputable def conditionA (P T : Nat) (tk pt : Nat → Nat → Nat) (mk : Nat → Nat) (y z : Int32) : Int32 := cif (askC P y z) (cif (uBad P T tk pt mk) (-2) (cif (y = -1) (nI (uC (uZ P T tk pt mk))) (cif (pIx (uC (uZ P T tk pt mk)) y) (cdT (uZ P T tk pt mk) y.toNatClampNeg z) (-1)))) (-1)
noncomputable def atOnceA (P T : Nat) (tk pt : Nat → Nat → Nat) (mk : Nat → Nat) (y z : Int32) : Int32 := cif (0 < P ∧ ¬ y < 0 ∧ ¬ z < 0) (cif (uBad P T tk pt mk) (-2) (cif (pIx (uC (uZ P T tk pt mk)) y ∧ pIx (uC (uZ P T tk pt mk)) z) (bz (uCo (tnS P tk) (uZ P T tk pt mk) y.toNatClampNeg z.toNatClampNeg)) (-1))) (-1)
noncomputable def leavesA (P T : Nat) (tk pt : Nat → Nat → Nat) (mk : Nat → Nat) (y z : Int32) : Int32 := cif (pIx P z ∧ ¬ y < 0) (cif (uBad P T tk pt mk) (-2) (cif (pIx (uE (uZ P T tk pt mk)) y) (uLf tk pt mk (uZ P T tk pt mk) y.toNatClampNeg z.toNatClampNeg) (-1))) (-1)
abbrev unK (m : mMem) (x mv P T : Nat) (tk pt : Nat → Nat → Nat) (V : aV) : Prop := caK m x 14 12 7 mv (fun _ _ => True) (fun m c => unfC m c P T tk pt V.1)
abbrev unG (x : Nat) (m m' : mMem) : Prop := gFr (fun k f => k = x ∧ f = 14) (gwN (64 * x + 12)) 14 1000 m m'
theorem i1le {y : Int32} : 0 ≤ y ↔ ¬ y < 0 := by
  have e0 : (0 : Int32).toInt = 0 := rfl
  rw [Int32.lt_iff_toInt_lt, Int32.le_iff_toInt_le, e0]
  omega
theorem pIx_n {n j : Nat} (hn : n < 2 ^ 31) (hj : j < 2 ^ 31) : pIx n (nI j) ↔ j < n := by
  constructor
  · rintro ⟨k, hk, e⟩
    have := (nIeq hj (by omega)).mp e
    omega
  · exact fun h => ⟨j, h, rfl⟩
section CPUU
variable {d x n mv c P T : Nat} {tk pt : Nat → Nat → Nat} {fi mk : Nat → Nat} {U : uS} {V : aV} {m m' : mMem} {Q : Option Value → mMem → Prop}
theorem unG.rf (hT : mWT m) : unG x m m := (gFr.rf hT).mono (fun _ _ z => z) (fun _ z => z) (by omega) (by omega)
theorem unG.cs (h : unG x m m') (hS : cS m x n P T tk pt fi V) (hn : ∀ a, gwN n a → ¬ gwN (64 * x + 12) a) : cS m' x n P T tk pt fi V :=
  hS.fr h hn (fun _ z => hS.ne z.1) (fun a h1 h2 => by have := hS.1.2; unfold gwN at h2; omega) (fun f hf z => by omega)
theorem ev_tellEvent {y z : Int32} (hd : 2 ≤ d) (hT : mWT m) (hO : m.1 c = some (.inr 7) ∧ c ≠ 0) (hG : uGd P T tk U) (hE : ucE P tk pt mk m c U) (h3 : ∀ t, t < T → tnS P tk t ≤ 3) (hy : ¬ y < 0) (hz : ¬ z < 0) (hQ : Q (some (.int (cif (pIx (uE U) y) (evT P tk pt mk U y.toNatClampNeg z) (-1)))) m) : mEv d 140 [.ref c, .int y, .int z] m Q := by
  obtain ⟨j, hj, rfl⟩ := nI_of hy
  obtain ⟨w, hw, rfl⟩ := nI_of hz
  have h30 := hG.2.1
  rw [nI_clamp hj] at hQ
  refine mEv.at (by omega) G140 (Nat.le_of_ble_eq_true rfl) ?_
  refine bk140_0 hT hO ?_
  rw [hE.1, nIle (by omega) hj]
  refine ⟨fun q => absurd q hy, fun _ => ⟨fun q => ?_, fun q => ⟨fun _ => ?_, fun q2 => absurd (i1le.mpr hz) q2⟩⟩⟩
  · rw [cif_f (fun p => by have := (pIx_n (by omega) hj).mp p; omega)] at hQ
    exact hQ
  · have hj2 : j < uE U := by omega
    rw [cif_t ((pIx_n (by omega) hj).mpr hj2)] at hQ
    obtain ⟨e2, e3, e4, e6, e5, e1⟩ := hE.2.2.2 j hj2
    have ht := h3 _ (hG.2.2.2.2 j hj2)
    have hin : mIn (nI j) 30 = true := (nIin_iff hj).mpr (by omega)
    have hpa : uPa U j < 2 ^ 31 := Nat.lt_of_lt_of_le (hG.1.2.1 j hj2).1 (Nat.pow_le_pow_right (by decide) (by omega))
    unfold evT at hQ
    rw [nI_clamp hj, e2, e3, e4, e6]
    refine ⟨fun q0 => ⟨hin, ?_⟩, fun q0 => ⟨fun q1 => ⟨hin, ?_⟩, fun q1 => ⟨fun q2 => ⟨hin, ?_⟩, fun q2 => ⟨hin, ?_⟩⟩⟩⟩
    · rw [cif_t q0] at hQ; exact hQ
    · rw [cif_f q0, cif_t q1] at hQ
      exact ev_bitCount (by omega) hT hpa (bk140_60 hT hO hQ)
    · rw [cif_f q0, cif_f q1, cif_t q2] at hQ
      rw [bz_0]
      exact ⟨fun q => by rw [bz_f q] at hQ; exact hQ, fun q => by rw [bz_t (Classical.not_not.mp q)] at hQ; exact hQ⟩
    · rw [cif_f q0, cif_f q1, cif_f q2, nI_clamp hw] at hQ
      have w0 : w ≠ 0 := fun e => q0 (by rw [e]; rfl)
      have w1 : w ≠ 1 := fun e => q1 (by rw [e]; rfl)
      have w2 : w ≠ 2 := fun e => q2 (by rw [e]; rfl)
      rw [l3, pk_sub (show 3 ≤ w by omega), nIle (by omega) (by omega), nI_mul, nI_add, pk_sub (show 3 ≤ j * 3 + w by omega)]
      refine ⟨fun q => ?_, fun q => ?_⟩
      · rw [cif_f (by omega)] at hQ; exact hQ
      · rw [cif_t (by omega)] at hQ
        refine ⟨(nIin_iff (by omega)).mpr (by omega), ?_⟩
        rw [nI_clamp (by omega), show j * 3 + w - 3 = j * 3 + (w - 3) by omega, e5 (w - 3) (by omega)]
        exact hQ
theorem ev_tellCond {y z : Int32} (hd : 2 ≤ d) (hT : mWT m) (hO : m.1 c = some (.inr 7) ∧ c ≠ 0) (hG : uGd P T tk U) (hC : ucC (tnS P tk) m c U) (hy : ¬ y < 0) (hQ : Q (some (.int (cif (pIx (uC U) y) (cdT U y.toNatClampNeg z) (-1)))) m) : mEv d 142 [.ref c, .int y, .int z] m Q := by
  obtain ⟨j, hj, rfl⟩ := nI_of hy
  have h80 := hG.2.2.1
  have h30 := hG.2.1
  rw [nI_clamp hj] at hQ
  refine mEv.at (by omega) G142 (Nat.le_of_ble_eq_true rfl) ?_
  refine bk142_0 hT hO ?_
  rw [hC.1, nI_ltI hj (by omega)]
  refine ⟨fun q => absurd q hy, fun _ => ⟨fun q => ?_, fun q => ?_⟩⟩
  · rw [cif_t ((pIx_n (by omega) hj).mpr q)] at hQ
    obtain ⟨e7, e8⟩ := hC.2.1 j q
    have ho := hG.1.1 j q
    have hin : mIn (nI j) 80 = true := (nIin_iff hj).mpr (by omega)
    unfold cdT at hQ
    rw [nI_clamp hj, e7, e8]
    unfold ogV
    refine ⟨fun q0 => ⟨hin, ?_⟩, fun q0 => ⟨hin, ?_⟩⟩
    · rw [cif_f q0] at hQ
      by_cases h0 : uOr U j = 0
      · rw [cif_t h0] at hQ
        rw [if_pos h0]
        exact ⟨fun q => absurd rfl q, fun _ => hQ⟩
      · rw [cif_f h0] at hQ
        rw [if_neg h0]
        exact ⟨fun _ => ⟨hin, hQ⟩, fun q => absurd (neg1_ne (show uOr U j - 1 < 2 ^ 31 by omega)) q⟩
    · rw [cif_t (Classical.not_not.mp q0)] at hQ; exact hQ
  · rw [cif_f (fun p => by have := (pIx_n (by omega) hj).mp p; omega)] at hQ
    exact hQ
theorem ev_eventC {y z : Int32} (hd : 17 ≤ d) (hT : mWT m) (hS : cS m x n P T tk pt fi V) (hv : iF m x 8 = nI mv) (h0 : 0 < P → 0 < mv) (hm9 : mv < 2 ^ 31) (hn : ∀ a, gwN n a → ¬ gwN (64 * x + 12) a) (hC : unK m x mv P T tk pt V)
    (hQ : ∀ m', unG x m m' → unK m' x mv P T tk pt V → Q (some (.int (eventA P T tk pt V.1 y z))) m') : mEv d 120 [.ref x, .int y, .int z] m Q := by
  obtain ⟨hO, hnx, hN, hk, s1, s2, s3, s4, s5, s6, s7, s8⟩ := id hS
  have h10 := hk.1
  have hno : ¬ askE P y z → Q (some (.int (-1))) m := by
    intro c
    have q := hQ m (unG.rf hT) hC
    unfold eventA at q
    rw [cif_f c] at q
    exact q
  have go : ∀ (C : Prop) (z3 : Int32) (x4 : Option Value), (z3 ≠ 0 ↔ C) → ((0 < P ∧ ¬ y < -1 ∧ C) ↔ askE P y z) → mEs (d - 1) 120 x g120 (31, [some (.ref x), some (.int y), some (.int z), some (.int z3), x4], [.int (bz (0 < P))], m) Q := by
    intro C z3 x4 e1 e2
    refine bk120_31 hT hO ?_
    rw [bz_0]
    refine ⟨fun c => hno (fun h => c h.1), fun c => ⟨fun c2 => hno (fun h => (e2.mpr h).2.1 c2), fun c2 => ⟨fun c3 => ?_, fun c3 => hno (fun h => c3 (e1.mpr (e2.mpr h).2.2))⟩⟩⟩
    have ask := e2.mp ⟨Classical.not_not.mp c, c2, e1.mp c3⟩
    refine ev_now121 (by omega) hT hS hv (h0 ask.1) hm9 hn hC ?_
    intro m1 R hC1 hok
    have q := hQ m1 R hC1
    unfold eventA at q
    rw [cif_t ask] at q
    have hS1 := unG.cs R hS hn
    refine bk120_49 R.wt hS1.1 hok.1 ?_
    obtain ⟨b1, ⟨b2, b3⟩ | ⟨b2, b3, b4, b5, b6⟩⟩ := id hok
    · rw [b2]
      refine ⟨fun e => absurd e (by decide), fun _ => ?_⟩
      rw [cif_t (C := uBad P T tk pt V.1) b3] at q
      exact q
    · rw [b2]
      rw [cif_f (C := uBad P T tk pt V.1) b3] at q
      refine ⟨fun _ => ⟨fun c5 => ?_, fun c5 => ?_⟩, fun e => absurd rfl e⟩
      · rw [cif_f c5] at q
        obtain ⟨hP, ⟨e, _⟩ | ⟨_, hy, hz⟩⟩ := ask
        · exact absurd e c5
        refine ev_tellEvent (by omega) R.wt hok.1 b4 b5 (fun t ht => Nat.le_of_not_lt fun g => b3 (Or.inl (Or.inr ⟨t, ht, g⟩))) hy hz ?_
        exact bk120_82 R.wt hS1.1 hok.1 q
      · rw [cif_t (Classical.not_not.mp c5)] at q
        rw [b5.1]
        exact bk120_82 R.wt hS1.1 hok.1 q
  refine mEv.at (by omega) G120 (Nat.le_of_ble_eq_true rfl) ?_
  refine bk120_0 hT hO ⟨fun c => ⟨fun c2 => ?_, fun c2 => ?_⟩, fun c => ⟨fun c2 => ?_, fun c2 => ?_⟩⟩
  · refine ev_hasNet (by omega) hT hS ?_
    refine go False 0 none ⟨fun h => h rfl, fun h => h.elim⟩ ⟨fun h => h.2.2.elim, fun h => ?_⟩
    exact h.2.elim (fun e => absurd e.1 c) (fun e => absurd c2 e.2.2)
  · refine ev_hasNet (by omega) hT hS ?_
    refine go True 1 none ⟨fun _ => trivial, fun _ => one0⟩ ⟨fun h => ⟨h.1, Or.inr ⟨c, fun z => h.2.1 ((iM1 c).mpr z), c2⟩⟩, fun h => ⟨h.1, fun z => ?_, trivial⟩⟩
    exact h.2.elim (fun e => c e.1) (fun e => e.2.1 ((iM1 c).mp z))
  · refine ev_hasNet (by omega) hT hS ?_
    refine go False 0 none ⟨fun h => h rfl, fun h => h.elim⟩ ⟨fun h => h.2.2.elim, fun h => ?_⟩
    exact h.2.elim (fun e => absurd e.2 c2) (fun e => absurd (Classical.not_not.mp c) e.1)
  · refine ev_hasNet (by omega) hT hS ?_
    refine go True 1 none ⟨fun _ => trivial, fun _ => one0⟩ ⟨fun h => ⟨h.1, Or.inl ⟨Classical.not_not.mp c, Classical.not_not.mp c2⟩⟩, fun h => ⟨h.1, fun z => ?_, trivial⟩⟩
    rw [Classical.not_not.mp c] at z
    exact iM2 z
theorem ev_conditionC {y z : Int32} (hd : 17 ≤ d) (hT : mWT m) (hS : cS m x n P T tk pt fi V) (hv : iF m x 8 = nI mv) (h0 : 0 < P → 0 < mv) (hm9 : mv < 2 ^ 31) (hn : ∀ a, gwN n a → ¬ gwN (64 * x + 12) a) (hC : unK m x mv P T tk pt V)
    (hQ : ∀ m', unG x m m' → unK m' x mv P T tk pt V → Q (some (.int (conditionA P T tk pt V.1 y z))) m') : mEv d 141 [.ref x, .int y, .int z] m Q := by
  obtain ⟨hO, hnx, hN, hk, s1, s2, s3, s4, s5, s6, s7, s8⟩ := id hS
  have h10 := hk.1
  have hno : ¬ askC P y z → Q (some (.int (-1))) m := by
    intro c
    have q := hQ m (unG.rf hT) hC
    unfold conditionA at q
    rw [cif_f c] at q
    exact q
  have go : ∀ (C : Prop) (z3 : Int32) (x4 : Option Value), (z3 ≠ 0 ↔ C) → ((0 < P ∧ ¬ y < -1 ∧ C) ↔ askC P y z) → mEs (d - 1) 141 x g141 (36, [some (.ref x), some (.int y), some (.int z), some (.int z3), x4], [.int (bz (0 < P))], m) Q := by
    intro C z3 x4 e1 e2
    refine bk141_36 hT hO ?_
    rw [bz_0]
    refine ⟨fun c => hno (fun h => c h.1), fun c => ⟨fun c2 => hno (fun h => (e2.mpr h).2.1 c2), fun c2 => ⟨fun c3 => ?_, fun c3 => hno (fun h => c3 (e1.mpr (e2.mpr h).2.2))⟩⟩⟩
    have ask := e2.mp ⟨Classical.not_not.mp c, c2, e1.mp c3⟩
    refine ev_now121 (by omega) hT hS hv (h0 ask.1) hm9 hn hC ?_
    intro m1 R hC1 hok
    have q := hQ m1 R hC1
    unfold conditionA at q
    rw [cif_t ask] at q
    have hS1 := unG.cs R hS hn
    refine bk141_54 R.wt hS1.1 hok.1 ?_
    obtain ⟨b1, ⟨b2, b3⟩ | ⟨b2, b3, b4, b5, b6⟩⟩ := id hok
    · rw [b2]
      refine ⟨fun e => absurd e (by decide), fun _ => ?_⟩
      rw [cif_t (C := uBad P T tk pt V.1) b3] at q
      exact q
    · rw [b2]
      rw [cif_f (C := uBad P T tk pt V.1) b3] at q
      refine ⟨fun _ => ⟨fun c5 => ?_, fun c5 => ?_⟩, fun e => absurd rfl e⟩
      · rw [cif_f c5] at q
        obtain ⟨hP, ⟨e, _⟩ | ⟨_, hy, hz⟩⟩ := ask
        · exact absurd e c5
        refine ev_tellCond (by omega) R.wt hok.1 b4 b6 hy ?_
        exact bk141_87 R.wt hS1.1 hok.1 q
      · rw [cif_t (Classical.not_not.mp c5)] at q
        rw [b6.1]
        exact bk141_87 R.wt hS1.1 hok.1 q
  have yes : ¬ y = -1 → (z = 0 ∨ z = 1) → ∀ x4, mEs (d - 1) 141 x g141 (36, [some (.ref x), some (.int y), some (.int z), some (.int 1), x4], [.int (bz (0 < P))], m) Q := by
    intro c c2 x4
    refine go True 1 x4 ⟨fun _ => trivial, fun _ => one0⟩ ⟨fun h => ⟨h.1, Or.inr ⟨c, fun z => h.2.1 ((iM1 c).mpr z), c2⟩⟩, fun h => ⟨h.1, fun z => ?_, trivial⟩⟩
    exact h.2.elim (fun e => c e.1) (fun e => e.2.1 ((iM1 c).mp z))
  refine mEv.at (by omega) G141 (Nat.le_of_ble_eq_true rfl) ?_
  refine bk141_0 hT hO ⟨fun c => ⟨fun c2 => ?_, fun c2 => ⟨fun c3 => ?_, fun c3 => ?_⟩⟩, fun c => ⟨fun c2 => ?_, fun c2 => ?_⟩⟩
  · exact ev_hasNet (by omega) hT hS (yes c (Or.inl c2) _)
  · refine ev_hasNet (by omega) hT hS ?_
    refine go False 0 none ⟨fun h => h rfl, fun h => h.elim⟩ ⟨fun h => h.2.2.elim, fun h => ?_⟩
    exact h.2.elim (fun e => absurd e.1 c) (fun e => e.2.2.elim (fun e => absurd e c2) (fun e => absurd e c3))
  · exact ev_hasNet (by omega) hT hS (yes c (Or.inr (Classical.not_not.mp c3)) _)
  · refine ev_hasNet (by omega) hT hS ?_
    refine go False 0 none ⟨fun h => h rfl, fun h => h.elim⟩ ⟨fun h => h.2.2.elim, fun h => ?_⟩
    exact h.2.elim (fun e => absurd e.2 c2) (fun e => absurd (Classical.not_not.mp c) e.1)
  · refine ev_hasNet (by omega) hT hS ?_
    refine go True 1 none ⟨fun _ => trivial, fun _ => one0⟩ ⟨fun h => ⟨h.1, Or.inl ⟨Classical.not_not.mp c, Classical.not_not.mp c2⟩⟩, fun h => ⟨h.1, fun z => ?_, trivial⟩⟩
    rw [Classical.not_not.mp c] at z
    exact iM2 z
theorem ev_atOnceC {y z : Int32} (hd : 17 ≤ d) (hT : mWT m) (hS : cS m x n P T tk pt fi V) (hv : iF m x 8 = nI mv) (h0 : 0 < P → 0 < mv) (hm9 : mv < 2 ^ 31) (hn : ∀ a, gwN n a → ¬ gwN (64 * x + 12) a) (hC : unK m x mv P T tk pt V)
    (hQ : ∀ m', unG x m m' → unK m' x mv P T tk pt V → Q (some (.int (atOnceA P T tk pt V.1 y z))) m') : mEv d 143 [.ref x, .int y, .int z] m Q := by
  obtain ⟨hO, hnx, hN, hk, s1, s2, s3, s4, s5, s6, s7, s8⟩ := id hS
  have hno : ¬ (0 < P ∧ ¬ y < 0 ∧ ¬ z < 0) → Q (some (.int (-1))) m := by
    intro c
    have q := hQ m (unG.rf hT) hC
    unfold atOnceA at q
    rw [cif_f c] at q
    exact q
  refine mEv.at (by omega) G143 (Nat.le_of_ble_eq_true rfl) ?_
  refine bk143_0 hT hO ?_
  refine ev_hasNet (by omega) hT hS ?_
  refine bk143_4 hT hO ?_
  rw [bz_0, i1le]
  refine ⟨fun c => hno (fun h => c h.1), fun c => ⟨fun c2 => hno (fun h => h.2.1 c2), fun c2 => ⟨fun c3 => ?_, fun c3 => hno (fun h => c3 h.2.2)⟩⟩⟩
  have ask : 0 < P ∧ ¬ y < 0 ∧ ¬ z < 0 := ⟨Classical.not_not.mp c, c2, c3⟩
  refine ev_now121 (by omega) hT hS hv (h0 ask.1) hm9 hn hC ?_
  intro m1 R hC1 hok
  have q := hQ m1 R hC1
  unfold atOnceA at q
  rw [cif_t ask] at q
  have hS1 := unG.cs R hS hn
  refine bk143_21 R.wt hS1.1 hok.1 ?_
  obtain ⟨b1, ⟨b2, b3⟩ | ⟨b2, b3, b4, b5, b6⟩⟩ := id hok
  · rw [b2]
    refine ⟨fun e => absurd e (by decide), fun _ => ?_⟩
    rw [cif_t (C := uBad P T tk pt V.1) b3] at q
    exact q
  · rw [b2]
    rw [cif_f (C := uBad P T tk pt V.1) b3] at q
    generalize uZ P T tk pt V.1 = U at q b4 b5 b6
    obtain ⟨j, hj, rfl⟩ := nI_of c2
    obtain ⟨w, hw, rfl⟩ := nI_of c3
    have h80 := b4.2.2.1
    rw [b6.1, nIle (by omega) hj, nI_ltI hw (by omega)]
    rw [pIx_n (by omega) hj, pIx_n (by omega) hw, nI_clamp hj, nI_clamp hw] at q
    refine ⟨fun _ => ⟨fun c4 => ?_, fun c4 => ⟨fun c5 => ?_, fun c5 => ?_⟩⟩, fun e => absurd rfl e⟩
    · rw [cif_f (by omega)] at q; exact q
    · rw [cif_t (by omega)] at q
      refine ev_tg (by omega) R.wt hok.1 (by omega) (by omega) ?_
      refine bk143_56 R.wt hS1.1 hok.1 ?_
      have e := b6.2.2 j w (by omega) (by omega)
      rw [bz_cg e, bz_0]
      refine ⟨fun g => ?_, fun g => ?_⟩
      · rw [bz_f (fun h => g ⟨c5, h⟩)] at q; exact q
      · rw [bz_t (Classical.not_not.mp g).2] at q; exact q
    · rw [cif_f (by omega)] at q; exact q
theorem ev_leavesC {y z : Int32} (hd : 17 ≤ d) (hT : mWT m) (hS : cS m x n P T tk pt fi V) (hv : iF m x 8 = nI mv) (h0 : 0 < P → 0 < mv) (hm9 : mv < 2 ^ 31) (hn : ∀ a, gwN n a → ¬ gwN (64 * x + 12) a) (hC : unK m x mv P T tk pt V)
    (hQ : ∀ m', unG x m m' → unK m' x mv P T tk pt V → Q (some (.int (leavesA P T tk pt V.1 y z))) m') : mEv d 144 [.ref x, .int y, .int z] m Q := by
  obtain ⟨hO, hnx, hN, hk, s1, s2, s3, s4, s5, s6, s7, s8⟩ := id hS
  have h10 := hk.1
  have hno : ¬ (pIx P z ∧ ¬ y < 0) → Q (some (.int (-1))) m := by
    intro c
    have q := hQ m (unG.rf hT) hC
    unfold leavesA at q
    rw [cif_f c] at q
    exact q
  refine mEv.at (by omega) G144 (Nat.le_of_ble_eq_true rfl) ?_
  refine bk144_0 hT hO ⟨n, hnx, hN.1, ?_⟩
  refine ev_hasPl (by omega) hT hN hk _ ?_
  refine bk144_8 hT hO ?_
  rw [bz_0, i1le]
  refine ⟨fun c => hno (fun h => c h.1), fun c => ⟨fun c2 => ?_, fun c2 => hno (fun h => c2 h.2)⟩⟩
  have ask : pIx P z ∧ ¬ y < 0 := ⟨Classical.not_not.mp c, c2⟩
  obtain ⟨w, hw, rfl⟩ := ask.1
  refine ev_now121 (by omega) hT hS hv (h0 (by omega)) hm9 hn hC ?_
  intro m1 R hC1 hok
  have q := hQ m1 R hC1
  unfold leavesA at q
  rw [cif_t ask] at q
  have hS1 := unG.cs R hS hn
  refine bk144_21 R.wt hS1.1 hok.1 ?_
  obtain ⟨b1, ⟨b2, b3⟩ | ⟨b2, b3, b4, b5, b6⟩⟩ := id hok
  · rw [b2]
    refine ⟨fun e => absurd e (by decide), fun _ => ?_⟩
    rw [cif_t (C := uBad P T tk pt V.1) b3] at q
    exact q
  · rw [b2]
    rw [cif_f (C := uBad P T tk pt V.1) b3] at q
    generalize uZ P T tk pt V.1 = U at q b4 b5 b6
    obtain ⟨j, hj, rfl⟩ := nI_of c2
    have h30 := b4.2.1
    rw [b5.1, nIle (by omega) hj, l10, nI_mul, nI_add]
    rw [pIx_n (by omega) hj, nI_clamp hj, nI_clamp (by omega)] at q
    refine ⟨fun _ => ⟨fun c4 => ?_, fun c4 => ⟨?_, ?_⟩⟩, fun e => absurd rfl e⟩
    · rw [cif_f (by omega)] at q; exact q
    · exact (nIin_iff (by omega)).mpr (by omega)
    · rw [cif_t (by omega)] at q
      rw [nI_clamp (by omega), (b5.2.2.2 j (by omega)).2.2.2.2.2 w hw]
      exact q
end CPUU
