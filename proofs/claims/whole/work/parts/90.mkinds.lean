/-! The model: kinds(). -/
noncomputable def kindsA (P T : Nat) (tk pt : Nat → Nat → Nat) : Int32 := cif (0 < P) (cif (kPlain T tk pt) 1 0 + cif (kPure P T tk pt) 2 0 + cif (kMach P T tk pt) 4 0 + cif (kCirc P T tk pt) 8 0 + cif (kFree P T tk) 16 0) (-1)
theorem cct_1 {C : Nat → Prop} : ∀ N, cct C N ≤ 1 ↔ ∀ t, t < N → ∀ u, u < t → ¬ (C t ∧ C u) := by
  intro N
  constructor
  · intro h t ht u hu z
    have h1 := cct_mono (C := C) (show t + 1 ≤ N from ht)
    have h2 := cct_mono (C := C) (show u + 1 ≤ t from hu)
    rw [cct_t z.1] at h1
    rw [cct_t z.2] at h2
    omega
  · intro h
    refine Classical.byContradiction fun z => ?_
    obtain ⟨i, i1, i2, i3⟩ := cct_kth (C := C) (k := 1) N (by omega)
    obtain ⟨j, j1, j2, j3⟩ := cct_kth (C := C) (k := 0) N (by omega)
    rcases Nat.lt_trichotomy i j with e | e | e
    · exact h j j1 i e ⟨j2, i2⟩
    · subst e; omega
    · exact h i i1 j e ⟨i2, j2⟩
theorem plB_and {P : Nat} {f g : Nat → Nat} : plB P f &&& plB P g = 0 ↔ ∀ p, p < P → ¬ (0 < f p ∧ 0 < g p) := by
  unfold plB
  rw [and_zero]
  constructor
  · intro h p hp z
    exact h p ⟨(bs_tb _ _ _).mpr ⟨hp, z.1⟩, (bs_tb _ _ _).mpr ⟨hp, z.2⟩⟩
  · intro h i z
    have z1 := (bs_tb _ _ _).mp z.1
    have z2 := (bs_tb _ _ _).mp z.2
    exact h i z1.1 ⟨z1.2, z2.2⟩
theorem kCirc_iff {P T : Nat} {tk pt : Nat → Nat → Nat} : kCirc P T tk pt ↔ ∀ p, p < P → cct (fun t => 0 < tk t p) T ≤ 1 ∧ cct (fun t => 0 < pt t p) T ≤ 1 := by
  constructor
  · intro h p hp
    rw [cct_1, cct_1]
    exact ⟨fun t ht u hu z => plB_and.mp (h t ht u hu).1 p hp z, fun t ht u hu z => plB_and.mp (h t ht u hu).2 p hp z⟩
  · intro h t ht u hu
    rw [plB_and, plB_and]
    exact ⟨fun p hp z => (cct_1 T).mp (h p hp).1 t ht u hu z, fun p hp z => (cct_1 T).mp (h p hp).2 t ht u hu z⟩
section MKIN
variable {d o n P T r lr s : Nat} {tk pt : Nat → Nat → Nat} {fi mk : Nat → Nat} {f : Nat → Nat} {V : aV} {m : mMem} {Q : Option Value → mMem → Prop}
theorem ev_sumOfM {x t : Nat} (hd : 1 ≤ d) (hT : mWT m) (hO : m.1 o = some (.inr 8) ∧ o ≠ 0) (h6 : iF m o 6 = nI P) (hP : P ≤ 10) (hA : m.1 x = some (.inl (.int, 100)) ∧ x ≠ 0) (ht : t < 10) (hf : ∀ p, p < 10 → m.2.2.1 x (10 * t + p) = nI (f p)) (hQ : Q (some (.int (nI (fb_sm f P)))) m) : mEv d 220 [.ref o, .ref x, .int (nI t)] m Q := by
  refine mEv.at (by omega) G220 (Nat.le_of_ble_eq_true rfl) ?_
  refine bk220_0 hT hO hA ?_
  refine upto (e := P) (X := fun p => mEs (d - 1) 220 o g220 (5, [some (.ref o), some (.ref x), some (.int (nI t)), some (.int (nI (fb_sm f p))), some (.int (nI p))], [], m) Q) ?_ ?_ 0 (Nat.zero_le _)
  · refine bk220_5 hT hO hA ?_
    rw [h6, nIle (by omega) (by omega)]
    exact ⟨fun _ => hQ, fun c => absurd (Nat.le_refl _) c⟩
  · intro p hp ih
    refine bk220_5 hT hO hA ?_
    rw [h6, nIle (by omega) (by omega), l10, nI_mul, nI_add, nI_clamp (by omega), hf p (by omega), nI_add, nIinc]
    refine ⟨fun c => by omega, fun _ => ⟨(nIin_iff (by omega)).mpr (by omega), ?_⟩⟩
    rintro v rfl v2 rfl
    exact ih
theorem ev_sumTk {t : Nat} (hd : 1 ≤ d) (hT : mWT m) (hO : m.1 o = some (.inr 8) ∧ o ≠ 0) (hN : mNet m o P T tk pt) (hk : okNet P T tk pt fi) (ht : t < 10) (hQ : Q (some (.int (nI (fb_sm (tk t) P)))) m) : mEv d 220 [.ref o, .ref (64 * o + 2), .int (nI t)] m Q :=
  ev_sumOfM (f := tk t) hd hT hO hN.1 hk.1 (hT.arr hO 1 rfl (by decide)) ht (hN.2.2.1 t ht) hQ
theorem ev_sumPt {t : Nat} (hd : 1 ≤ d) (hT : mWT m) (hO : m.1 o = some (.inr 8) ∧ o ≠ 0) (hN : mNet m o P T tk pt) (hk : okNet P T tk pt fi) (ht : t < 10) (hQ : Q (some (.int (nI (fb_sm (pt t) P)))) m) : mEv d 220 [.ref o, .ref (64 * o + 3), .int (nI t)] m Q :=
  ev_sumOfM (f := pt t) hd hT hO hN.1 hk.1 (hT.arr hO 2 rfl (by decide)) ht (hN.2.2.2 t ht) hQ
theorem ev_isPlainM (hd : 1 ≤ d) (hT : mWT m) (hO : m.1 o = some (.inr 8) ∧ o ≠ 0) (hN : mNet m o P T tk pt) (hk : okNet P T tk pt fi) (hQ : Q (some (.int (bz (kPlain T tk pt)))) m) : mEv d 221 [.ref o] m Q := by
  have hk2 := hk.2.1
  refine mEv.at (by omega) G221 (Nat.le_of_ble_eq_true rfl) ?_
  refine bk221_0 hT hO ?_
  refine upto (e := 10 * T) (X := fun j => ∀ so : Int32, so = bz (∀ i, i < j → tk (i / 10) (i % 10) ≤ 1 ∧ pt (i / 10) (i % 10) ≤ 1) → mEs (d - 1) 221 o g221 (4, [some (.ref o), some (.int so), some (.int (nI j))], [], m) Q) ?_ ?_ 0 (Nat.zero_le _) 1 (bz_t (fun i hi => absurd hi (Nat.not_lt_zero _))).symm
  · intro so hso
    refine bk221_4 hT hO ?_
    rw [hN.2.1, l10, nI_mul, nIle (by omega) (by omega), hso]
    refine ⟨fun _ => ⟨bz_01 _, ?_⟩, fun c => absurd (Nat.le_refl _) c⟩
    rw [bz_cg (D := kPlain T tk pt)]
    · exact hQ
    · exact ⟨fun z j hj => z j (by omega), fun z j hj => z j (by omega)⟩
  · intro j hj ih so hso
    have e1 := hN.2.2.1 (j / 10) (by omega) (j % 10) (by omega)
    have e2 := hN.2.2.2 (j / 10) (by omega) (j % 10) (by omega)
    rw [show 10 * (j / 10) + j % 10 = j by omega] at e1 e2
    have a1 := hk.2.2.1 (j / 10) (j % 10)
    have a2 := hk.2.2.2.1 (j / 10) (j % 10)
    refine bk221_4 hT hO ?_
    rw [hN.2.1, l10, nI_mul, nIle (by omega) (by omega), nI_clamp (by omega), e1, e2, l2, nIle (by omega) (by omega), nIle (by omega) (by omega), nIinc]
    refine ⟨fun c => by omega, fun _ => ⟨fun c0 => ?_, fun c0 => ⟨(nIin_iff (by omega)).mpr (by omega), fun c1 => ?_, fun c1 => ⟨(nIin_iff (by omega)).mpr (by omega), fun c2 => ?_, fun c2 => ?_⟩⟩⟩⟩
    · rintro v rfl
      rw [hso, bz_0] at c0
      exact ih 0 (bz_f (fun z => c0 (fun i hi => z i (by omega)))).symm
    · rintro v rfl
      exact ih 0 (bz_f (fun z => by have := (z j (Nat.lt_succ_self _)).1; omega)).symm
    · rintro v rfl
      exact ih 0 (bz_f (fun z => by have := (z j (Nat.lt_succ_self _)).2; omega)).symm
    · rintro v rfl
      rw [hso, bz_n0] at c0
      refine ih 1 (bz_t (fun i hi => ?_)).symm
      by_cases e : i = j
      · subst e; omega
      · exact c0 i (by omega)
theorem ev_isCircM (hd : 2 ≤ d) (hT : mWT m) (hO : m.1 o = some (.inr 8) ∧ o ≠ 0) (hN : mNet m o P T tk pt) (hk : okNet P T tk pt fi) (hQ : Q (some (.int (bz (kCirc P T tk pt)))) m) : mEv d 222 [.ref o] m Q := by
  have hP10 := hk.1
  have hk2 := hk.2.1
  rw [bz_cg kCirc_iff] at hQ
  refine mEv.at (by omega) G222 (Nat.le_of_ble_eq_true rfl) ?_
  refine bk222_0 hT hO ?_
  refine upto (e := P) (X := fun p => ∀ (so : Int32) (x3 x4 x5 : Option Value), so = bz (∀ i, i < p → cct (fun t => 0 < tk t i) T ≤ 1 ∧ cct (fun t => 0 < pt t i) T ≤ 1) → mEs (d - 1) 222 o g222 (4, [some (.ref o), some (.int so), some (.int (nI p)), x3, x4, x5], [], m) Q) ?_ ?_ 0 (Nat.zero_le _) 1 _ _ _ (bz_t (fun i hi => absurd hi (Nat.not_lt_zero _))).symm
  · intro so x3 x4 x5 hso
    refine bk222_4 hT hO ?_
    rw [hN.1, nIle (by omega) (by omega), hso]
    exact ⟨fun _ => ⟨bz_01 _, hQ⟩, fun c => absurd (Nat.le_refl _) c⟩
  · intro p hp ih so x3 x4 x5 hso
    refine bk222_4 hT hO ?_
    rw [hN.1, nIle (by omega) (by omega)]
    refine ⟨fun c => by omega, fun _ => ?_⟩
    refine upto (e := T) (X := fun t => mEs (d - 1) 222 o g222 (20, [some (.ref o), some (.int so), some (.int (nI p)), some (.int (nI (cct (fun t => 0 < tk t p) t))), some (.int (nI (cct (fun t => 0 < pt t p) t))), some (.int (nI t))], [], m) Q) ?_ ?_ 0 (Nat.zero_le _)
    · have l1 : cct (fun t => 0 < tk t p) T ≤ T := cct_le _
      have l2' : cct (fun t => 0 < pt t p) T ≤ T := cct_le _
      refine bk222_20 hT hO ?_
      rw [hN.2.1, nIle (by omega) (by omega), l2, nIle (by omega) (by omega), nIle (by omega) (by omega), nIinc]
      refine ⟨fun _ => ⟨fun c0 => ?_, fun c0 => ⟨fun c1 => ?_, fun c1 => ⟨fun c2 => ?_, fun c2 => ?_⟩⟩⟩, fun c => absurd (Nat.le_refl _) c⟩
      · rintro v rfl
        rw [hso, bz_0] at c0
        exact ih 0 _ _ _ (bz_f (fun z => c0 (fun i hi => z i (by omega)))).symm
      · rintro v rfl
        exact ih 0 _ _ _ (bz_f (fun z => by have := (z p (Nat.lt_succ_self _)).1; omega)).symm
      · rintro v rfl
        exact ih 0 _ _ _ (bz_f (fun z => by have := (z p (Nat.lt_succ_self _)).2; omega)).symm
      · rintro v rfl
        rw [hso, bz_n0] at c0
        refine ih 1 _ _ _ (bz_t (fun i hi => ?_)).symm
        by_cases e : i = p
        · subst e; omega
        · exact c0 i (by omega)
    · intro t ht ih2
      have a1 := hk.2.2.1 t p
      have a2 := hk.2.2.2.1 t p
      refine bk222_20 hT hO ?_
      rw [hN.2.1, nIle (by omega) (by omega)]
      refine ⟨fun c => by omega, fun _ => ?_⟩
      refine ev_tkM (by omega) hT hO hN (by omega) (by omega) ?_
      refine bk222_37 hT hO ?_
      rw [nIle0 (by omega), Int32.add_zero, nIinc]
      have go : ∀ v : Int32, v = nI (cct (fun t => 0 < tk t p) (t + 1)) → mEv (d - 1) 163 [.ref o, .int (nI t), .int (nI p)] m (fun r m' => mEs (d - 1) 222 o g222 (56, [some (.ref o), some (.int so), some (.int (nI p)), some (.int v), some (.int (nI (cct (fun t => 0 < pt t p) t))), some (.int (nI t))], r.toList ++ [.int (nI (cct (fun t => 0 < pt t p) t))], m') Q) := by
        rintro v rfl
        refine ev_ptM (by omega) hT hO hN (by omega) (by omega) ?_
        refine bk222_56 hT hO ?_
        rw [nIle0 (by omega), Int32.add_zero, nIinc, nIinc]
        refine ⟨fun c1 => ?_, fun c1 => ?_⟩
        · rintro v rfl v2 rfl
          rw [cct_f (C := fun t => 0 < pt t p) (by omega)] at ih2; exact ih2
        · rintro v rfl v2 rfl
          rw [cct_t (C := fun t => 0 < pt t p) (by omega)] at ih2; exact ih2
      refine ⟨fun c1 => ?_, fun c1 => ?_⟩
      · rintro v rfl
        exact go _ (by rw [cct_f (C := fun t => 0 < tk t p) (by omega)])
      · rintro v rfl
        exact go _ (by rw [cct_t (C := fun t => 0 < tk t p) (by omega)])
theorem ev_kindsM (hd : 3 ≤ d) (hT : mWT m) (hS : mS m o P T tk pt fi V)
    (hQ : Q (some (.int (kindsA P T tk pt))) (mSetF m o 0 (.int 0))) : mEv d 219 [.ref o] m Q := by
  obtain ⟨S1, T1⟩ := hS.th hT
  have hP10 := hS.2.2.1.1
  have hk2 := hS.2.2.1.2.1
  obtain ⟨hO, hN, hk, _⟩ := id S1
  unfold kindsA at hQ
  refine mEv.at (by omega) G219 (Nat.le_of_ble_eq_true rfl) ?_
  refine bk219_0 hT hS.1 ?_
  rintro m1 rfl
  rw [S1.2.2.2.1, bz_n0]
  refine ⟨fun c => ?_, fun c => ?_⟩
  · rw [cif_t c] at hQ
    generalize mSetF m o 0 (.int 0) = m1 at *
    have sm9 : ∀ (g : Nat → Nat → Nat), (∀ t p, g t p ≤ 9) → ∀ t, fb_sm (g t) P ≤ 90 := fun g h t => by have := sm_le9 (h t) P; omega
    have hU := T1.wt
    refine upto (e := T) (X := fun t => ∀ (b1 b2 b3 : Int32) (x5 x6 x7 : Option Value), b1 = bz (∀ u, u < t → plB P (tk u) &&& plB P (pt u) = 0) → b2 = bz (∀ u, u < t → fb_sm (tk u) P = 1 ∧ fb_sm (pt u) P = 1) → b3 = bz (∀ v, v < t → ∀ u, u < v → plB P (tk v) &&& plB P (tk u) = 0 ∨ plB P (tk v) = plB P (tk u)) → mEs (d - 1) 219 o g219 (23, [some (.ref o), some (.int b1), some (.int b2), some (.int b3), some (.int (nI t)), x5, x6, x7], [], m1) Q) ?_ ?_ 0 (Nat.zero_le _) 1 1 1 _ _ _ (bz_t (fun i hi => absurd hi (Nat.not_lt_zero _))).symm (bz_t (fun i hi => absurd hi (Nat.not_lt_zero _))).symm (bz_t (fun i hi => absurd hi (Nat.not_lt_zero _))).symm
    · intro b1 b2 b3 x5 x6 x7 h1 h2 h3
      refine bk219_23 hU hO ?_
      rw [hN.2.1, nIle (by omega) (by omega)]
      refine ⟨fun _ => ?_, fun c => absurd (Nat.le_refl _) c⟩
      refine ev_isPlainM (by omega) hU hO hN hk ?_
      have last : ∀ y : Int32, y = cif (kPlain T tk pt) 1 0 + cif (kPure P T tk pt) 2 0 + cif (kMach P T tk pt) 4 0 → mEv (d - 1) 222 [.ref o] m1 (fun r m' => mEs (d - 1) 219 o g219 (203, [some (.ref o), some (.int b1), some (.int b2), some (.int b3), some (.int (nI T)), x5, x6, x7], r.toList ++ [.int y], m') Q) := by
        rintro y rfl
        refine ev_isCircM (by omega) hU hO hN hk ?_
        refine bk219_203 hU hO ?_
        rw [h3, bz_0, bz_0]
        refine ⟨fun c4 => ⟨fun c5 => ?_, fun c5 => ?_⟩, fun c4 => ⟨fun c5 => ?_, fun c5 => ?_⟩⟩
        · rw [cif_f c4, cif_f (C := kFree P T tk) c5] at hQ; exact hQ
        · rw [cif_f c4, cif_t (C := kFree P T tk) (Classical.not_not.mp c5)] at hQ; exact hQ
        · rw [cif_t (Classical.not_not.mp c4), cif_f (C := kFree P T tk) c5] at hQ; exact hQ
        · rw [cif_t (Classical.not_not.mp c4), cif_t (C := kFree P T tk) (Classical.not_not.mp c5)] at hQ; exact hQ
      refine bk219_171 hU hO ?_
      have z1 : b1 = 0 ↔ ¬ kPure P T tk pt := by rw [h1, bz_0]; exact Iff.rfl
      have z2 : b2 = 0 ↔ ¬ kMach P T tk pt := by rw [h2, bz_0]; exact Iff.rfl
      rw [z1, z2, bz_0]
      refine ⟨fun c1 => ⟨fun c2 => ⟨fun c3 => last _ ?_, fun c3 => last _ ?_⟩, fun c2 => ⟨fun c3 => last _ ?_, fun c3 => last _ ?_⟩⟩, fun c1 => ⟨fun c2 => ⟨fun c3 => last _ ?_, fun c3 => last _ ?_⟩, fun c2 => ⟨fun c3 => last _ ?_, fun c3 => last _ ?_⟩⟩⟩
      · rw [cif_f c1, cif_f (C := kPure P T tk pt) c2, cif_f (C := kMach P T tk pt) c3]
      · rw [cif_f c1, cif_f (C := kPure P T tk pt) c2, cif_t (C := kMach P T tk pt) (Classical.not_not.mp c3)]
      · rw [cif_f c1, cif_t (C := kPure P T tk pt) (Classical.not_not.mp c2), cif_f (C := kMach P T tk pt) c3]
      · rw [cif_f c1, cif_t (C := kPure P T tk pt) (Classical.not_not.mp c2), cif_t (C := kMach P T tk pt) (Classical.not_not.mp c3)]
      · rw [cif_t (Classical.not_not.mp c1), cif_f (C := kPure P T tk pt) c2, cif_f (C := kMach P T tk pt) c3]
      · rw [cif_t (Classical.not_not.mp c1), cif_f (C := kPure P T tk pt) c2, cif_t (C := kMach P T tk pt) (Classical.not_not.mp c3)]
      · rw [cif_t (Classical.not_not.mp c1), cif_t (C := kPure P T tk pt) (Classical.not_not.mp c2), cif_f (C := kMach P T tk pt) c3]
      · rw [cif_t (Classical.not_not.mp c1), cif_t (C := kPure P T tk pt) (Classical.not_not.mp c2), cif_t (C := kMach P T tk pt) (Classical.not_not.mp c3)]
    · intro t ht ih b1 b2 b3 x5 x6 x7 h1 h2 h3
      have s1 := sm9 tk hk.2.2.1 t
      have s2 := sm9 pt hk.2.2.2.1 t
      have pl1 : ∀ u, plB P (tk u) < 1024 := fun u => plB_lt _ hP10
      have pl2 : ∀ u, plB P (pt u) < 1024 := fun u => plB_lt _ hP10
      have an1 : plB P (tk t) &&& plB P (pt t) < 1024 := and_lt10 (pl1 t)
      -- the loop over those ahead
      have free : ∀ (b1 b2 : Int32) (x7 : Option Value), b1 = bz (∀ u, u < t + 1 → plB P (tk u) &&& plB P (pt u) = 0) → b2 = bz (∀ u, u < t + 1 → fb_sm (tk u) P = 1 ∧ fb_sm (pt u) P = 1) → mEs (d - 1) 219 o g219 (111, [some (.ref o), some (.int b1), some (.int b2), some (.int b3), some (.int (nI t)), some (.int (nI (plB P (tk t)))), some (.int 0), x7], [], m1) Q := by
        intro b1 b2 x7 h1 h2
        refine upto (e := t) (X := fun u => ∀ (b3 : Int32) (x7 : Option Value), b3 = bz ((∀ v, v < t → ∀ u, u < v → plB P (tk v) &&& plB P (tk u) = 0 ∨ plB P (tk v) = plB P (tk u)) ∧ ∀ w, w < u → plB P (tk t) &&& plB P (tk w) = 0 ∨ plB P (tk t) = plB P (tk w)) → mEs (d - 1) 219 o g219 (111, [some (.ref o), some (.int b1), some (.int b2), some (.int b3), some (.int (nI t)), some (.int (nI (plB P (tk t)))), some (.int (nI u)), x7], [], m1) Q) ?_ ?_ 0 (Nat.zero_le _) b3 _ ?_
        · intro b3 x7 h3
          refine bk219_111 hU hO ?_
          rw [nIle (by omega) (by omega), nIinc]
          refine ⟨fun _ => ?_, fun c => absurd (Nat.le_refl _) c⟩
          rintro v rfl
          refine ih b1 b2 b3 _ _ _ h1 h2 ?_
          rw [h3]
          refine bz_cg ⟨fun z v hv => ?_, fun z => ⟨fun v hv => z v (by omega), z t (Nat.lt_succ_self _)⟩⟩
          by_cases e : v = t
          · subst e; exact z.2
          · exact z.1 v (by omega)
        · intro u hu ih2 b3 x7 h3
          have an2 : plB P (tk t) &&& plB P (tk u) < 1024 := and_lt10 (pl1 t)
          have p1 := pl1 t
          have p2 := pl1 u
          refine bk219_111 hU hO ?_
          rw [nIle (by omega) (by omega)]
          refine ⟨fun c => by omega, fun _ => ?_⟩
          refine ev_setTk (by omega) hU hO hN hk (by omega) ?_
          show mEs (d - 1) 219 o g219 (128, _, [.int (nI (plB P (tk u)))], m1) Q
          refine bk219_128 hU hO ?_
          rw [and_n, nIeq0 (by omega), nIeq (by omega) (by omega), nIinc]
          have yes : ¬ b3 = 0 → (plB P (tk t) &&& plB P (tk u) = 0 ∨ plB P (tk t) = plB P (tk u)) → ∀ x7 : Option Value, mEs (d - 1) 219 o g219 (111, [some (.ref o), some (.int b1), some (.int b2), some (.int 1), some (.int (nI t)), some (.int (nI (plB P (tk t)))), some (.int (nI (u + 1))), x7], [], m1) Q := by
            intro e h x7
            rw [h3, bz_n0] at e
            refine ih2 1 _ (bz_t ⟨e.1, fun w hw => ?_⟩).symm
            by_cases ew : w = u
            · subst ew; exact h
            · exact e.2 w (by omega)
          refine ⟨fun c0 => ?_, fun c0 => ⟨fun c1 => ?_, fun c1 => ⟨fun c2 => ?_, fun c2 => ?_⟩⟩⟩
          · rintro v rfl
            rw [h3, bz_0] at c0
            exact ih2 0 _ (bz_f (fun z => c0 ⟨z.1, fun w hw => z.2 w (by omega)⟩)).symm
          · rintro v rfl
            exact yes c0 (Or.inl c1) _
          · rintro v rfl
            exact ih2 0 _ (bz_f (fun z => (z.2 u (Nat.lt_succ_self _)).elim c1 c2)).symm
          · rintro v rfl
            exact yes c0 (Or.inr (Classical.not_not.mp c2)) _
        · rw [h3]
          exact bz_cg ⟨fun z => ⟨z, fun w hw => absurd hw (Nat.not_lt_zero _)⟩, fun z => z.1⟩
      -- whether a machine
      have mach : ∀ (b1 : Int32) (x6 x7 : Option Value), b1 = bz (∀ u, u < t + 1 → plB P (tk u) &&& plB P (pt u) = 0) → ((b2 = 0 → mEs (d - 1) 219 o g219 (111, [some (.ref o), some (.int b1), some (.int 0), some (.int b3), some (.int (nI t)), some (.int (nI (plB P (tk t)))), some (.int 0), x7], [], m1) Q) ∧ (¬ b2 = 0 → mEv (d - 1) 220 [.ref o, .ref (64 * o + 2), .int (nI t)] m1 (fun r m' => mEs (d - 1) 219 o g219 (84, [some (.ref o), some (.int b1), some (.int b2), some (.int b3), some (.int (nI t)), some (.int (nI (plB P (tk t)))), x6, x7], r.toList ++ [], m') Q))) := by
        intro b1 x6 x7 h1
        have no : ¬ (fb_sm (tk t) P = 1 ∧ fb_sm (pt t) P = 1) → ∀ x7 : Option Value, mEs (d - 1) 219 o g219 (111, [some (.ref o), some (.int b1), some (.int 0), some (.int b3), some (.int (nI t)), some (.int (nI (plB P (tk t)))), some (.int 0), x7], [], m1) Q := fun h x7 => free b1 0 _ h1 (bz_f (fun z => h (z t (Nat.lt_succ_self _)))).symm
        refine ⟨fun c0 => ?_, fun c0 => ?_⟩
        · rw [h2, bz_0] at c0
          exact free b1 0 _ h1 (bz_f (fun z => c0 (fun u hu => z u (by omega)))).symm
        · refine ev_sumTk (by omega) hU hO hN hk (by omega) ?_
          refine bk219_84 hU hO ?_
          rw [nIeq1 (by omega)]
          refine ⟨fun c1 => no (fun z => c1 z.1) _, fun c1 => ?_⟩
          refine ev_sumPt (by omega) hU hO hN hk (by omega) ?_
          refine bk219_98 hU hO ?_
          rw [nIeq1 (by omega)]
          refine ⟨fun c2 => no (fun z => c2 z.2) _, fun c2 => ?_⟩
          rw [h2, bz_n0] at c0
          refine free b1 1 _ h1 (bz_t (fun u hu => ?_)).symm
          by_cases e : u = t
          · subst e; exact ⟨Classical.not_not.mp c1, Classical.not_not.mp c2⟩
          · exact c0 u (by omega)
      refine bk219_23 hU hO ?_
      rw [hN.2.1, nIle (by omega) (by omega)]
      refine ⟨fun c => by omega, fun _ => ?_⟩
      refine ev_setTk (by omega) hU hO hN hk (by omega) ?_
      show mEs (d - 1) 219 o g219 (42, _, [.int (nI (plB P (tk t)))], m1) Q
      refine bk219_42 hU hO ⟨fun c1 => ?_, fun c1 => ?_⟩
      · rw [h1, bz_0] at c1
        exact mach 0 _ _ (bz_f (fun z => c1 (fun u hu => z u (by omega)))).symm
      · refine ev_setPt (by omega) hU hO hN hk (by omega) ?_
        show mEs (d - 1) 219 o g219 (60, _, [.int (nI (plB P (pt t))), .int (nI (plB P (tk t)))], m1) Q
        refine bk219_60 hU hO ?_
        rw [and_n, nIeq0 (by omega)]
        refine ⟨fun c2 => mach 0 _ _ (bz_f (fun z => c2 (z t (Nat.lt_succ_self _)))).symm, fun c2 => mach 1 _ _ ?_⟩
        rw [h1, bz_n0] at c1
        refine (bz_t (fun u hu => ?_)).symm
        by_cases e : u = t
        · subst e; exact Classical.not_not.mp c2
        · exact c1 u (by omega)
  · rw [cif_f c] at hQ; exact hQ
end MKIN
