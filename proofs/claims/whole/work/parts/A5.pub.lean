/-! What the class answers about its trees and markings. -/
theorem i1012 {z : Int32} : (¬ z < 10 ∧ ¬ 12 < z) ↔ (z = 10 ∨ z = 11 ∨ z = 12) := by
  have e0 : (10 : Int32).toInt = 10 := rfl
  have e1 : (11 : Int32).toInt = 11 := rfl
  have e2 : (12 : Int32).toInt = 12 := rfl
  rw [← Int32.toInt_inj, ← Int32.toInt_inj, ← Int32.toInt_inj, Int32.lt_iff_toInt_lt, Int32.lt_iff_toInt_lt, e0, e1, e2]
  omega
theorem iM1 {y : Int32} (h : ¬ y = -1) : y < -1 ↔ y < 0 := by
  have e0 : (-1 : Int32).toInt = -1 := rfl
  have e1 : (0 : Int32).toInt = 0 := rfl
  rw [← Int32.toInt_inj, e0] at h
  rw [Int32.lt_iff_toInt_lt, Int32.lt_iff_toInt_lt, e0, e1]
  omega
theorem iM2 : ¬ (-1 : Int32) < -1 := by decide
theorem one0 : (1 : Int32) ≠ 0 := by decide
abbrev coK (m : mMem) (x mv P T : Nat) (tk pt : Nat → Nat → Nat) (V : aV) : Prop := caK m x 9 7 3 mv (fun _ _ => True) (fun m c => covC m c P T tk (cvZ P T tk pt V.1))
abbrev coG (x : Nat) (m m' : mMem) : Prop := gFr (fun k f => k = x ∧ f = 9) (gwN (64 * x + 7)) 5 2700 m m'
abbrev reK (m : mMem) (x mv P T : Nat) (tk pt : Nat → Nat → Nat) (V : aV) : Prop := caK m x 10 8 5 mv (fun _ _ => True) (fun m c => rchC m c P T tk pt (rcZ P T tk pt V.1))
abbrev reG (x : Nat) (m m' : mMem) : Prop := gFr (fun k f => k = x ∧ f = 10) (gwN (64 * x + 8)) 10 8700 m m'
section CPUB
variable {d x n mv P T : Nat} {tk pt : Nat → Nat → Nat} {fi : Nat → Nat} {V : aV} {m m' : mMem} {Q : Option Value → mMem → Prop}
theorem coG.rf (hT : mWT m) : coG x m m := (gFr.rf hT).mono (fun _ _ z => z) (fun _ z => z) (by omega) (by omega)
theorem reG.rf (hT : mWT m) : reG x m m := (gFr.rf hT).mono (fun _ _ z => z) (fun _ z => z) (by omega) (by omega)
theorem coG.cs (h : coG x m m') (hS : cS m x n P T tk pt fi V) (hn : ∀ a, gwN n a → ¬ gwN (64 * x + 7) a) : cS m' x n P T tk pt fi V :=
  hS.fr h hn (fun _ z => hS.ne z.1) (fun a h1 h2 => by have := hS.1.2; unfold gwN at h2; omega) (fun f hf z => by omega)
theorem reG.cs (h : reG x m m') (hS : cS m x n P T tk pt fi V) (hn : ∀ a, gwN n a → ¬ gwN (64 * x + 8) a) : cS m' x n P T tk pt fi V :=
  hS.fr h hn (fun _ z => hS.ne z.1) (fun a h1 h2 => by have := hS.1.2; unfold gwN at h2; omega) (fun f hf z => by omega)
theorem ev_nodeC {y z : Int32} (hd : 8 ≤ d) (hT : mWT m) (hS : cS m x n P T tk pt fi V) (hv : iF m x 8 = nI mv) (h0 : 0 < P → 0 < mv) (hm9 : mv < 2 ^ 31) (hn : ∀ a, gwN n a → ¬ gwN (64 * x + 7) a) (hC : coK m x mv P T tk pt V)
    (hQ : ∀ m', coG x m m' → coK m' x mv P T tk pt V → Q (some (.int (nodeA P T tk (cvZ P T tk pt V.1) y z))) m') : mEv d 38 [.ref x, .int y, .int z] m Q := by
  obtain ⟨hO, hnx, hN, hk, s1, s2, s3, s4, s5, s6, s7, s8⟩ := id hS
  have h10 := hk.1
  have hno : ¬ askN P y z → Q (some (.int (-1))) m := by
    intro c
    have q := hQ m (coG.rf hT) hC
    unfold nodeA at q
    rw [cif_f c] at q
    exact q
  have go : ∀ (C : Prop) (z3 : Int32) (x4 : Option Value), (z3 ≠ 0 ↔ C) → ((0 < P ∧ ¬ y < -1 ∧ C) ↔ askN P y z) → mEs (d - 1) 38 x g38 (50, [some (.ref x), some (.int y), some (.int z), some (.int z3), x4], [.int (bz (0 < P))], m) Q := by
    intro C z3 x4 e1 e2
    refine bk38_50 hT hO ?_
    rw [bz_0]
    refine ⟨fun c => hno (fun h => c h.1), fun c => ⟨fun c2 => hno (fun h => (e2.mpr h).2.1 c2), fun c2 => ⟨fun c3 => ?_, fun c3 => hno (fun h => c3 (e1.mpr (e2.mpr h).2.2))⟩⟩⟩
    have ask := e2.mp ⟨Classical.not_not.mp c, c2, e1.mp c3⟩
    refine ev_now39 (by omega) hT hS hv (h0 ask.1) hm9 hn hC ?_
    intro m1 R hC1 hok
    have q := hQ m1 R hC1
    unfold nodeA at q
    rw [cif_t ask] at q
    have hS1 := coG.cs R hS hn
    refine bk38_68 R.wt hS1.1 hok.1 ?_
    generalize cvZ P T tk pt V.1 = S at q hok
    obtain ⟨b1, b2, b3, b4 | ⟨b4, b5, b6, b7⟩⟩ := id hok
    · rw [b4.2]
      refine ⟨fun e => absurd e (by decide), fun _ => ?_⟩
      rw [cif_f (by omega)] at q
      exact q
    · rw [b5]
      refine ⟨fun _ => ⟨fun c5 => ?_, fun c5 => ?_⟩, fun e => absurd rfl e⟩
      · rw [cif_t b4, cif_f c5] at q
        refine ev_cvTell (by omega) R.wt hok h10 b4 (ask.2.elim (fun h => absurd h.1 c5) (fun h => h.2.2)) ?_
        exact bk38_101 R.wt hS1.1 hok.1 q
      · rw [cif_t b4, cif_t (Classical.not_not.mp c5)] at q
        rw [b6.2.1]
        exact bk38_101 R.wt hS1.1 hok.1 q
  refine mEv.at (by omega) G38 (Nat.le_of_ble_eq_true rfl) ?_
  refine bk38_0 hT hO ⟨fun c => ⟨n, hnx, hN.1, ?_⟩, fun c => ⟨fun c2 => ?_, fun c2 => ?_⟩⟩
  · refine ev_hasPl (by omega) hT hN hk _ ?_
    refine bk38_25 hT hO ?_
    rw [bz_n0]
    refine ⟨fun c3 => ?_, fun c3 => ⟨fun c4 => ?_, fun c4 => ⟨fun c5 => ?_, fun c5 => ?_⟩⟩⟩
    · refine ev_hasNet (by omega) hT hS ?_
      refine go True 1 none ⟨fun _ => trivial, fun _ => one0⟩ ⟨fun h => ⟨h.1, Or.inr ⟨c, fun z => h.2.1 ((iM1 c).mpr z), Or.inl c3⟩⟩, fun h => ⟨h.1, fun z => ?_, trivial⟩⟩
      exact h.2.elim (fun e => c e.1) (fun e => e.2.1 ((iM1 c).mp z))
    · refine ev_hasNet (by omega) hT hS ?_
      refine go False 0 none ⟨fun h => h rfl, fun h => h.elim⟩ ⟨fun h => h.2.2.elim, fun h => ?_⟩
      exact h.2.elim (fun e => absurd e.1 c) (fun e => e.2.2.elim (fun e => absurd e c3) (fun e => absurd c4 (i1012.mpr e).1))
    · refine ev_hasNet (by omega) hT hS ?_
      refine go False 0 none ⟨fun h => h rfl, fun h => h.elim⟩ ⟨fun h => h.2.2.elim, fun h => ?_⟩
      exact h.2.elim (fun e => absurd e.1 c) (fun e => e.2.2.elim (fun e => absurd e c3) (fun e => absurd c5 (i1012.mpr e).2))
    · refine ev_hasNet (by omega) hT hS ?_
      refine go True 1 none ⟨fun _ => trivial, fun _ => one0⟩ ⟨fun h => ⟨h.1, Or.inr ⟨c, fun z => h.2.1 ((iM1 c).mpr z), Or.inr (i1012.mp ⟨c4, c5⟩)⟩⟩, fun h => ⟨h.1, fun z => ?_, trivial⟩⟩
      exact h.2.elim (fun e => c e.1) (fun e => e.2.1 ((iM1 c).mp z))
  · refine ev_hasNet (by omega) hT hS ?_
    refine go False 0 none ⟨fun h => h rfl, fun h => h.elim⟩ ⟨fun h => h.2.2.elim, fun h => ?_⟩
    exact h.2.elim (fun e => absurd e.2 c2) (fun e => absurd (Classical.not_not.mp c) e.1)
  · refine ev_hasNet (by omega) hT hS ?_
    refine go True 1 none ⟨fun _ => trivial, fun _ => one0⟩ ⟨fun h => ⟨h.1, Or.inl ⟨Classical.not_not.mp c, Classical.not_not.mp c2⟩⟩, fun h => ⟨h.1, fun z => ?_, trivial⟩⟩
    rw [Classical.not_not.mp c] at z
    exact iM2 z
theorem ev_boundC {y : Int32} (hd : 8 ≤ d) (hT : mWT m) (hS : cS m x n P T tk pt fi V) (hv : iF m x 8 = nI mv) (h0 : 0 < P → 0 < mv) (hm9 : mv < 2 ^ 31) (hn : ∀ a, gwN n a → ¬ gwN (64 * x + 7) a) (hC : coK m x mv P T tk pt V)
    (hQ : ∀ m', coG x m m' → coK m' x mv P T tk pt V → Q (some (.int (boundA P (cvZ P T tk pt V.1) y))) m') : mEv d 51 [.ref x, .int y] m Q := by
  obtain ⟨hO, hnx, hN, hk, s1, s2, s3, s4, s5, s6, s7, s8⟩ := id hS
  have h10 := hk.1
  refine mEv.at (by omega) G51 (Nat.le_of_ble_eq_true rfl) ?_
  refine bk51_0 hT hO ⟨n, hnx, hN.1, ?_⟩
  refine ev_hasPl (by omega) hT hN hk _ ?_
  refine bk51_8 hT hO ?_
  rw [bz_n0]
  refine ⟨fun c => ?_, fun c => ?_⟩
  · obtain ⟨j, hj, rfl⟩ := id c
    refine ev_now39 (by omega) hT hS hv (h0 (by omega)) hm9 hn hC ?_
    intro m1 R hC1 hok
    have q := hQ m1 R hC1
    unfold boundA at q
    rw [cif_t (C := pIx P (nI j)) c, nI_clamp (by omega)] at q
    have hS1 := coG.cs R hS hn
    refine bk51_17 R.wt hS1.1 hok.1 ?_
    generalize cvZ P T tk pt V.1 = S at q hok
    obtain ⟨b1, b2, b3, b4 | ⟨b4, b5, b6, b7⟩⟩ := id hok
    · rw [b4.2]
      refine ⟨fun e => absurd e (by decide), fun _ => ?_⟩
      rw [cif_f (by omega)] at q
      exact bk51_35 R.wt hS1.1 hok.1 q
    · rw [b5]
      refine ⟨fun _ => ?_, fun e => absurd rfl e⟩
      rw [cif_t b4] at q
      refine ev_mostIn (by omega) R.wt hok h10 b4 hj ?_
      exact bk51_35 R.wt hS1.1 hok.1 q
  · have q := hQ m (coG.rf hT) hC
    unfold boundA at q
    rw [cif_f (C := pIx P y) c] at q
    exact q
theorem ev_coversC {y : Int32} (hd : 8 ≤ d) (hT : mWT m) (hS : cS m x n P T tk pt fi V) (hv : iF m x 8 = nI mv) (h0 : 0 < P → 0 < mv) (hm9 : mv < 2 ^ 31) (hn : ∀ a, gwN n a → ¬ gwN (64 * x + 7) a) (hC : coK m x mv P T tk pt V)
    (hQ : ∀ m', coG x m m' → coK m' x mv P T tk pt V → Q (some (.int (coversA P (cvZ P T tk pt V.1) V.2.1 y))) m') : mEv d 53 [.ref x, .int y] m Q := by
  obtain ⟨hO, hnx, hN, hk, s1, s2, s3, s4, s5, s6, s7, s8⟩ := id hS
  have h10 := hk.1
  have hno : ¬ (0 < P ∧ (y = 0 ∨ y = 1)) → Q (some (.int (-1))) m := by
    intro c
    have q := hQ m (coG.rf hT) hC
    unfold coversA at q
    rw [cif_f c] at q
    exact q
  refine mEv.at (by omega) G53 (Nat.le_of_ble_eq_true rfl) ?_
  refine bk53_0 hT hO ?_
  refine ev_hasNet (by omega) hT hS ?_
  refine bk53_4 hT hO ?_
  rw [bz_0]
  have e01 : (¬ y < 0 ∧ y ≤ 1) ↔ (y = 0 ∨ y = 1) := by
    have e0 : (0 : Int32).toInt = 0 := rfl
    have e1 : (1 : Int32).toInt = 1 := rfl
    rw [← Int32.toInt_inj, ← Int32.toInt_inj, Int32.lt_iff_toInt_lt, Int32.le_iff_toInt_le, e0, e1]
    omega
  refine ⟨fun c => hno (fun h => c h.1), fun c => ⟨fun c2 => hno (fun h => (e01.mpr h.2).1 c2), fun c2 => ⟨fun c3 => ?_, fun c3 => hno (fun h => c3 (e01.mpr h.2).2)⟩⟩⟩
  have ask : 0 < P ∧ (y = 0 ∨ y = 1) := ⟨Classical.not_not.mp c, e01.mp ⟨c2, c3⟩⟩
  refine ev_now39 (by omega) hT hS hv (h0 ask.1) hm9 hn hC ?_
  intro m1 R hC1 hok
  have q := hQ m1 R hC1
  unfold coversA at q
  rw [cif_t ask] at q
  have hS1 := coG.cs R hS hn
  refine bk53_22 R.wt hS1.1 hok.1 ?_
  generalize cvZ P T tk pt V.1 = S at q hok
  obtain ⟨b1, b2, b3, b4 | ⟨b4, b5, b6, b7⟩⟩ := id hok
  · rw [b4.2]
    refine ⟨fun e => absurd e (by decide), fun _ => ?_⟩
    rw [cif_f (by omega)] at q
    exact q
  · rw [b5]
    refine ⟨fun _ => ⟨fun c5 => ?_, fun c5 => ?_⟩, fun e => absurd rfl e⟩
    · rw [cif_t b4, cif_f c5] at q
      refine ev_countAbove (r := 64 * x + 5) (lr := 10) (gl := V.2.1) (by omega) R.wt hok h10 b4 (R.wt.arr hS1.1 1 rfl (by decide)) (by omega) hS1.2.2.2.2.2.2.1 s4 ?_
      exact bk53_56 R.wt hS1.1 hok.1 q
    · rw [cif_t b4, cif_t (Classical.not_not.mp c5)] at q
      refine ev_leastAbove (r := 64 * x + 5) (lr := 10) (gl := V.2.1) (by omega) R.wt hok h10 b4 (R.wt.arr hS1.1 1 rfl (by decide)) (by omega) hS1.2.2.2.2.2.2.1 s4 (fun k k1 k2 k3 => ?_) (fun k1 => ?_)
      · rw [lstC_at (C := fun k => leP P V.2.1 (S.2.1 k)) k2 k3 S.1 k1] at q
        exact bk53_45 R.wt hS1.1 hok.1 (bk53_56 R.wt hS1.1 hok.1 q)
      · rw [lstC_no (C := fun k => leP P V.2.1 (S.2.1 k)) S.1 k1] at q
        exact bk53_45 R.wt hS1.1 hok.1 (bk53_56 R.wt hS1.1 hok.1 q)
end CPUB
