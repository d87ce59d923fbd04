/-! The class Reach: build, what is told. -/
def rbA (c k : Nat) : Prop := 64 * c + 1 ≤ k ∧ k ≤ 64 * c + 9
def rbF (c k f : Nat) : Prop := k = c ∧ (f = 1 ∨ f = 2 ∨ f = 12 ∨ f = 13)
/-- all markings as they lie in the class -/
def rchC (m : mMem) (c P T : Nat) (tk pt : Nat → Nat → Nat) (S : rcS) : Prop := (m.1 c = some (.inr 5) ∧ c ≠ 0) ∧ rcOk P S ∧ iF m c 12 = nI P ∧ iF m c 13 = nI T ∧ ((S.1 = 301 ∧ iF m c 2 = 1) ∨ (S.1 ≤ 300 ∧ iF m c 2 = 0 ∧ rcR m c P T tk pt S ∧ ∀ k, k < S.1 → m.2.2.1 (64 * c + 7) k = nI (laZ P T tk pt S k)))
section CRC5
variable {d c n P T N r lr : Nat} {tk pt : Nat → Nat → Nat} {fi mk row : Nat → Nat} {S : rcS} {m : mMem} {Q : Option Value → mMem → Prop}
theorem ev_rBuild (hd : 5 ≤ d) (hT : mWT m) (hO : m.1 c = some (.inr 5) ∧ c ≠ 0) (hNt : cNet m n P T tk pt fi) (hk : okNet P T tk pt fi) (hnc : n ≠ c) (hA : m.1 r = some (.inl (.int, lr)) ∧ r ≠ 0) (hl : 10 ≤ lr) (hrc : ∀ i, i < 64 → r ≠ 64 * c + i) (hr : ∀ p, p < 10 → m.2.2.1 r p = nI (mk p)) (hm : ∀ p, mk p ≤ 99)
    (hQ : ∀ m', mTo (rbA c) (rbF c) m m' → rchC m' c P T tk pt (rcZ P T tk pt mk) → Q none m') : mEv d 60 [.ref c, .ref n, .ref r] m Q := by
  have hP10 := hk.1
  have hk2 := hk.2.1
  refine mEv.at (by omega) G60 (Nat.le_of_ble_eq_true rfl) ?_
  refine bk60_0 hT hO hNt.1 hA ?_
  intro m1 em1 m3 em3 m5 em5 m7 em7
  obtain ⟨t1, e2⟩ := sF1 em1 hT hO (by decide)
  rw [t1.nf (fun z => hnc z.1), hNt.2.1] at em3
  obtain ⟨t3, e12⟩ := sF1 em3 t1.wt (t1.ob hO) (by decide)
  rw [t3.nf (fun z => hnc z.1), t1.nf (fun z => hnc z.1), hNt.2.2.1] at em5
  obtain ⟨t5, e13⟩ := sF1 em5 t3.wt (t3.ob (t1.ob hO)) (by decide)
  obtain ⟨t7, e1⟩ := sF1 em7 t5.wt (t5.ob (t3.ob (t1.ob hO))) (by decide)
  have T7 : mTo (rbA c) (rbF c) m m7 := (((t1.mono (fun _ h => h.elim) (fun k f h => ⟨h.1, by omega⟩)).tr (t3.mono (fun _ h => h.elim) (fun k f h => ⟨h.1, by omega⟩))).tr (t5.mono (fun _ h => h.elim) (fun k f h => ⟨h.1, by omega⟩))).tr (t7.mono (fun _ h => h.elim) (fun k f h => ⟨h.1, by omega⟩))
  have x2 : iF m7 c 2 = 0 := by rw [t7.nf (by omega), t5.nf (by omega), t3.nf (by omega)]; exact e2
  have x12 : iF m7 c 12 = nI P := by rw [t7.nf (by omega), t5.nf (by omega)]; exact e12
  have x13 : iF m7 c 13 = nI T := by rw [t7.nf (by omega)]; exact e13
  have xr : ∀ p, p < 10 → m7.2.2.1 r p = nI (mk p) := by rw [t7.i id, t5.i id, t3.i id, t1.i id]; exact hr
  clear em1 em3 em5 em7 t1 t3 t5 t7 e2 e12 e13
  refine ev_fill (len := 1024) (by omega) T7.wt (T7.wt.arr (T7.ob hO) 7 rfl (by decide)) (by decide) ?_
  obtain ⟨t8, a8⟩ := sI1 (m' := mSetI m7 (64 * c + 8) (filled (m7.2.2.1 (64 * c + 8)) 0 1024 (-1))) rfl T7.wt
  generalize mSetI m7 (64 * c + 8) (filled (m7.2.2.1 (64 * c + 8)) 0 1024 (-1)) = m8 at *
  have T8 : mTo (rbA c) (rbF c) m m8 := T7.tr (t8.mono (fun k h => by unfold rbA; omega) (fun _ _ h => h.elim))
  have gN8 := hNt.to T8 (by unfold rbA; omega) (by unfold rbA; omega) (by unfold rbA; omega) (by unfold rbF; omega) (by unfold rbF; omega)
  refine bk60_34 T8.wt (T8.ob hO) (T8.ob hNt.1) (T8.ob hA) ?_
  refine ev_rAdd (S := (0, fun _ => mk, fun _ => 0, fun _ => 0, fun _ => 0, fun _ _ => 0)) (row := mk) (i0 := 0) (t0 := 0) (d0 := 0) (by omega) T8.wt (T8.ob hO) gN8 hk hnc ⟨by rw [t8.nf id]; exact x12, by rw [t8.nf id]; exact x13, by rw [t8.nf id]; exact e1, fun k hk' => absurd hk' (Nat.not_lt_zero _), fun k hk' => absurd hk' (Nat.not_lt_zero _), fun k hk' => absurd hk' (Nat.not_lt_zero _), fun k hk' => absurd hk' (Nat.not_lt_zero _), fun k hk' => absurd hk' (Nat.not_lt_zero _), ?_⟩ (by show 0 < 300; omega) (fun k p => hm p) (T8.ob hA) hl (fun i h1 h2 => hrc i (by omega)) (by rw [t8.i (hrc 8 (by omega))]; exact xr) hm (fun k hk' => absurd hk' (Nat.not_lt_zero _)) rfl rfl (Or.inl ⟨rfl, rfl⟩) ?_
  · rw [a8]
    exact ⟨fun s hs => Or.inl (filled_in (Nat.zero_le _) hs), fun k hk' => absurd hk' (Nat.not_lt_zero _), fun s s' h1 h2 h3 h4 => absurd (filled_in (Nat.zero_le _) h1) h4⟩
  intro m9 t9 R9
  have T9 : mTo (rbA c) (rbF c) m m9 := T8.tr (t9.mono (fun k h => by unfold raA at h; unfold rbA; omega) (fun k f h => ⟨h.1, Or.inl h.2⟩))
  have y2 : iF m9 c 2 = 0 := by rw [t9.nf (by unfold raF; omega), t8.nf id]; exact x2
  have R9' : rcR m9 c P T tk pt (0 + 1, (fun k => if k = 0 then mk else mk), updN (fun _ => 0) 0 0, updN (fun _ => 0) 0 0, updN (fun _ => 0) 0 0, fun _ _ => 0) := R9
  rw [show (fun k : Nat => if k = 0 then mk else mk) = fun _ => mk from funext fun k => by split <;> rfl, show updN (fun _ => 0) 0 0 = fun _ => 0 from funext fun k => by unfold updN; split <;> rfl] at R9'
  refine bk60_42 T9.wt (T9.ob hO) (T9.ob hNt.1) (T9.ob hA) ?_
  have hB := rcB_all (P := P) (T := T) (tk := tk) (pt := pt) (mk := mk) hk hm
  -- the end
  have fin : ∀ i (x3 : Int32) (m' : mMem), i ≤ 300 → mTo (rbA c) (rbF c) m m' → iF m' c 12 = nI P → iF m' c 13 = nI T → ¬ (i < (rcB P T tk pt mk i).1 ∧ (rcB P T tk pt mk i).1 ≤ 300) → rcM m' c P T tk pt (rcB P T tk pt mk i) i 0 → (¬ iF m' c 2 = 0 → mEs (d - 1) 60 c g60 (90, [some (.ref c), some (.ref n), some (.ref r), some (.int x3)], [], m') Q) ∧ (¬ ¬ iF m' c 2 = 0 → mEv (d - 1) 66 [.ref c] m' (fun r' m2 => mEs (d - 1) 60 c g60 (90, [some (.ref c), some (.ref n), some (.ref r), some (.int x3)], r'.toList ++ [], m2) Q)) := by
    intro i x3 m' hi T' z12 z13 hs hM
    have eZ := rcZ_of (P := P) (T := T) (tk := tk) (pt := pt) (mk := mk) (show i ≤ 301 by omega) hs
    have hok := (hB i).1
    rcases hM with ⟨g1, g2⟩ | ⟨g1, g2, R, X⟩
    · refine ⟨fun _ => ?_, fun c => ?_⟩
      · refine bk60_90 T'.wt (T'.ob hO) (T'.ob hNt.1) (T'.ob hA) (hQ m' T' ?_)
        rw [eZ]
        exact ⟨T'.ob hO, hok, z12, z13, Or.inl ⟨g1, g2⟩⟩
      · rw [g2] at c; exact absurd (by decide) c
    · refine ⟨fun c => absurd g2 c, fun _ => ?_⟩
      have nx := rcZ_nx (P := P) (T := T) (tk := tk) (pt := pt) (fi := fi) (mk := mk) hk hm (by rw [eZ]; exact g1)
      rw [eZ] at nx
      refine ev_lookAhead (S := rcB P T tk pt mk i) (by omega) T'.wt (T'.ob hO) hk R hok g1 nx (fun k u hk' hu hr => X k u hu (Or.inl (by omega)) hr) ?_
      intro m2 t2 hZ
      have T2 : mTo (rbA c) (rbF c) m m2 := T'.tr (t2.mono (fun k h => by unfold rbA; omega) (fun _ _ h => h.elim))
      refine bk60_90 T2.wt (T2.ob hO) (T2.ob hNt.1) (T2.ob hA) (hQ m2 T2 ?_)
      rw [eZ]
      exact ⟨T2.ob hO, hok, by rw [t2.nf id]; exact z12, by rw [t2.nf id]; exact z13, Or.inr ⟨g1, by rw [t2.nf id]; exact g2, R.to t2 (by omega) id id id, hZ⟩⟩
  refine upto (e := 300) (X := fun i => ∀ (m' : mMem), mTo (rbA c) (rbF c) m m' → iF m' c 12 = nI P → iF m' c 13 = nI T → rcM m' c P T tk pt (rcB P T tk pt mk i) i 0 → mEs (d - 1) 60 c g60 (45, [some (.ref c), some (.ref n), some (.ref r), some (.int (nI i))], [], m') Q) ?_ ?_ 0 (Nat.zero_le _) m9 T9 R9'.1 R9'.2.1 (Or.inr ⟨by show 1 ≤ 300; omega, y2, R9', fun k u hu hku => by omega⟩)
  · intro m' T' z12 z13 hM
    refine bk60_45 T'.wt (T'.ob hO) (T'.ob hNt.1) (T'.ob hA) ⟨fun _ => ?_, fun c => absurd (by decide) c⟩
    exact fin 300 _ m' (Nat.le_refl _) T' z12 z13 (by omega) hM
  · intro i hi ih m' T' z12 z13 hM
    refine bk60_45 T'.wt (T'.ob hO) (T'.ob hNt.1) (T'.ob hA) ?_
    rw [l300, nIle (by omega) (by omega)]
    refine ⟨fun c => by omega, fun _ => ?_⟩
    rcases id hM with ⟨g1, g2⟩ | ⟨g1, g2, R, X⟩
    · have q := fin i (nI i) m' (by omega) T' z12 z13 (by omega) hM
      refine ⟨fun _ => q, fun _ => ⟨fun _ => q, fun c => ?_⟩⟩
      rw [g2] at c; exact absurd (by decide) c
    · rw [R.2.2.1, nIle (by omega) (by omega)]
      refine ⟨fun c => fin i _ m' (by omega) T' z12 z13 (by omega) hM, fun cN => ⟨fun c => absurd g2 c, fun _ => ?_⟩⟩
      have gN := hNt.to T' (by unfold rbA; omega) (by unfold rbA; omega) (by unfold rbA; omega) (by unfold rbF; omega) (by unfold rbF; omega)
      refine ev_spread (S := rcB P T tk pt mk i) (by omega) T'.wt (T'.ob hO) gN hk hnc R (hB i).1 (by omega) g1 g2 X ?_
      intro m2 t2 M2
      have eB : rcB P T tk pt mk (i + 1) = rcF P tk pt (rcB P T tk pt mk i) i T := by
        show cif _ _ _ = _
        rw [cif_t ⟨by omega, g1⟩]
      have T2 : mTo (rbA c) (rbF c) m m2 := T'.tr (t2.mono (fun k h => by unfold rsA at h; unfold rbA; omega) (fun k f h => by unfold rsF at h; exact ⟨h.1, by omega⟩))
      refine bk60_73 T2.wt (T2.ob hO) (T2.ob hNt.1) (T2.ob hA) ?_
      rintro v1 rfl
      rw [nIinc]
      refine ih m2 T2 (by rw [t2.nf (by unfold rsF; omega)]; exact z12) (by rw [t2.nf (by unfold rsF; omega)]; exact z13) ?_
      rw [eB]
      rcases M2 with h | ⟨h1, h2, h3, h4⟩
      · exact Or.inl h
      · exact Or.inr ⟨h1, h2, h3, fun k u hu hku hr => h4 k u hu (by omega) hr⟩
/-- what reached() tells -/
noncomputable def rchT (P T : Nat) (tk pt : Nat → Nat → Nat) (S : rcS) (i : Nat) (z : Int32) : Int32 := cif (z = 10) (nI (bs (rdyS P tk pt (S.2.1 i)) T)) (cif (z = 11) (nI (S.2.2.2.2.1 i)) (nI (S.2.1 i z.toNatClampNeg)))
theorem ev_rTell {i z : Int32} (hd : 1 ≤ d) (hT : mWT m) (hC : rchC m c P T tk pt S) (hP : P ≤ 10) (h300 : S.1 ≤ 300) (hz : (∃ j, j < P ∧ z = nI j) ∨ z = 10 ∨ z = 11) (hQ : Q (some (.int (cif (∃ j, j < S.1 ∧ i = nI j) (rchT P T tk pt S i.toNatClampNeg z) (-1)))) m) : mEv d 68 [.ref c, .int i, .int z] m Q := by
  obtain ⟨hO, hok, h12, h13, h | ⟨_, h2, R, hE⟩⟩ := id hC
  · omega
  obtain ⟨r1, r2, r3, r4, r5, r6, r7, r8, r9⟩ := id R
  refine mEv.at (by omega) G68 (Nat.le_of_ble_eq_true rfl) ?_
  refine bk68_0 hT hO ?_
  rw [r3]
  rcases pk_ix i (n := S.1) (by omega) with h | h | ⟨j, hj, rfl⟩
  · rw [cif_f] at hQ
    · exact ⟨fun _ => hQ, fun c => absurd h c⟩
    · rintro ⟨j, h1, rfl⟩; exact nI_nlt0 (by omega) h
  · rw [cif_f] at hQ
    · exact ⟨fun _ => hQ, fun _ => ⟨fun c => absurd h (Int32.not_le.mpr c), fun _ => hQ⟩⟩
    · rintro ⟨j, h1, rfl⟩; rw [nIle (by omega) (by omega)] at h; omega
  · rw [cif_t ⟨j, hj, rfl⟩, nI_clamp (by omega)] at hQ
    unfold rchT at hQ
    rw [nI_clamp (by omega), r5 j hj, r8 j hj, nIin_iff (by omega)]
    refine ⟨fun c => absurd c (nI_nlt0 (by omega)), fun _ => ⟨fun _ => ⟨fun c => ⟨by omega, ?_⟩, fun c1 => ⟨fun c => ⟨by omega, ?_⟩, fun c2 => ?_⟩⟩, fun c => absurd ((nI_ltI (by omega) (by omega)).mpr hj) c⟩⟩
    · rw [cif_t c] at hQ; exact hQ
    · rw [cif_f c1, cif_t c] at hQ; exact hQ
    · rw [cif_f c1, cif_f c2] at hQ
      rcases hz with ⟨w, hw, rfl⟩ | e | e
      · rw [nI_clamp (by omega)] at hQ
        simp (disch := omega) only [forall_eq, l2, l3, l4, l9, l10, l11, l12, l20, l30, l80, l90, l99, l100, l110, l200, l240, l252, l300, l1024, l1M, nI_mul, nIle, nI_ltI, nIeq, nIx10, n10x, nI_add, nI_clamp, nIin_iff, nIinc, nIlt0, nIeq0, nIle0, nIle1, n1lt, n0lt, nIeq1, bz_0, Classical.not_not, r1, r4 j hj w (by omega)]
        exact ⟨fun c => c.elim, fun _ => ⟨fun c => by omega, fun _ => ⟨by omega, hQ⟩⟩⟩
      · exact absurd e c1
      · exact absurd e c2
/-- the least, as it is told -/
noncomputable def lsA (C : Nat → Prop) (N : Nat) : Int32 := if lsN C N < N then nI (lsN C N) else -3
theorem lsA_y {C : Nat → Prop} {N k : Nat} (h : k < N) (h1 : C k) (h2 : ∀ j, j < k → ¬ C j) : lsA C N = nI k := by
  have e : lsN C N = k := lsN_eq (by omega) (fun _ => h1) h2
  unfold lsA
  rw [e, if_pos h]
theorem lsA_n {C : Nat → Prop} {N : Nat} (h : ∀ k, k < N → ¬ C k) : lsA C N = -3 := by
  have e : lsN C N = N := lsN_eq (Nat.le_refl _) (fun h => by omega) h
  unfold lsA
  rw [e, if_neg (by omega)]
def rDd (P T : Nat) (tk pt : Nat → Nat → Nat) (S : rcS) (k : Nat) : Prop := bs (rdyS P tk pt (S.2.1 k)) T = 0
theorem ev_countDead (hd : 1 ≤ d) (hT : mWT m) (hC : rchC m c P T tk pt S) (hk : T ≤ 10) (h300 : S.1 ≤ 300) (hQ : Q (some (.int (nI (cct (rDd P T tk pt S) S.1)))) m) : mEv d 70 [.ref c] m Q := by
  obtain ⟨hO, hok, h12, h13, h | ⟨_, h2, R, hE⟩⟩ := id hC
  · omega
  obtain ⟨r1, r2, r3, r4, r5, r6, r7, r8, r9⟩ := id R
  refine mEv.at (by omega) G70 (Nat.le_of_ble_eq_true rfl) ?_
  refine bk70_0 hT hO ?_
  refine upto (e := S.1) (X := fun k => mEs (d - 1) 70 c g70 (4, [some (.ref c), some (.int (nI (cct (rDd P T tk pt S) k))), some (.int (nI k))], [], m) Q) ?_ ?_ 0 (Nat.zero_le _)
  · refine bk70_4 hT hO ?_
    rw [r3, nIle (by omega) (by omega)]
    exact ⟨fun _ => hQ, fun c => absurd (Nat.le_refl _) c⟩
  · intro k hk' ih
    have hbs := bs_small (rdyS P tk pt (S.2.1 k)) hk
    refine bk70_4 hT hO ?_
    rw [r3, nIle (by omega) (by omega), nI_clamp (by omega), r5 k hk', nIeq0 (by omega), nIinc, nIinc]
    refine ⟨fun c => by omega, fun _ => ⟨(nIin_iff (by omega)).mpr (by omega), fun cd => ?_, fun cd => ?_⟩⟩
    · rintro v rfl
      rw [cct_f (C := rDd P T tk pt S) cd] at ih; exact ih
    · rintro v rfl v2 rfl
      rw [cct_t (C := rDd P T tk pt S) (Classical.not_not.mp cd)] at ih; exact ih
theorem ev_leastDead (hd : 1 ≤ d) (hT : mWT m) (hC : rchC m c P T tk pt S) (hk : T ≤ 10) (h300 : S.1 ≤ 300) (hQ : Q (some (.int (lsA (rDd P T tk pt S) S.1))) m) : mEv d 71 [.ref c] m Q := by
  obtain ⟨hO, hok, h12, h13, h | ⟨_, h2, R, hE⟩⟩ := id hC
  · omega
  obtain ⟨r1, r2, r3, r4, r5, r6, r7, r8, r9⟩ := id R
  refine mEv.at (by omega) G71 (Nat.le_of_ble_eq_true rfl) ?_
  refine bk71_0 hT hO ?_
  refine upto (e := S.1) (X := fun k => (∀ j, j < k → ¬ rDd P T tk pt S j) → mEs (d - 1) 71 c g71 (2, [some (.ref c), some (.int (nI k))], [], m) Q) ?_ ?_ 0 (Nat.zero_le _) (fun q hq => absurd hq (Nat.not_lt_zero _))
  · intro hq
    refine bk71_2 hT hO ?_
    rw [r3, nIle (by omega) (by omega)]
    rw [lsA_n hq] at hQ
    exact ⟨fun _ => hQ, fun c => absurd (Nat.le_refl _) c⟩
  · intro k hk' ih hq
    have hbs := bs_small (rdyS P tk pt (S.2.1 k)) hk
    refine bk71_2 hT hO ?_
    rw [r3, nIle (by omega) (by omega), nI_clamp (by omega), r5 k hk', nIeq0 (by omega), nIinc]
    refine ⟨fun c => by omega, fun _ => ⟨(nIin_iff (by omega)).mpr (by omega), fun cd => ?_, fun cd => ?_⟩⟩
    · rintro v rfl
      refine ih (fun j hj => ?_)
      by_cases e : j = k
      · subst e; exact cd
      · exact hq j (by omega)
    · rw [lsA_y hk' (Classical.not_not.mp cd) hq] at hQ; exact hQ
noncomputable def rCm (P T : Nat) (tk pt : Nat → Nat → Nat) (S : rcS) (b : Nat) : Nat := cct (fun k => rEv P T tk pt S (rTg P T tk pt S b) k) S.1
theorem ev_comingTo {b : Nat} (hd : 1 ≤ d) (hT : mWT m) (hC : rchC m c P T tk pt S) (h300 : S.1 ≤ 300) (hb : b < 12) (hQ : Q (some (.int (nI (rCm P T tk pt S b)))) m) : mEv d 72 [.ref c, .int (nI b)] m Q := by
  obtain ⟨hO, hok, h12, h13, h | ⟨_, h2, R, hE⟩⟩ := id hC
  · omega
  obtain ⟨r1, r2, r3, r4, r5, r6, r7, r8, r9⟩ := id R
  refine mEv.at (by omega) G72 (Nat.le_of_ble_eq_true rfl) ?_
  refine bk72_0 hT hO ?_
  refine upto (e := S.1) (X := fun k => mEs (d - 1) 72 c g72 (4, [some (.ref c), some (.int (nI b)), some (.int (nI (cct (fun k => rEv P T tk pt S (rTg P T tk pt S b) k) k))), some (.int (nI k))], [], m) Q) ?_ ?_ 0 (Nat.zero_le _)
  · refine bk72_4 hT hO ?_
    rw [r3, nIle (by omega) (by omega)]
    exact ⟨fun _ => hQ, fun c => absurd (Nat.le_refl _) c⟩
  · intro k hk' ih
    have hz : laZ P T tk pt S k < 2 ^ 12 := bs_lt _ _
    have hzb : (laZ P T tk pt S k).testBit b = true ↔ b < 12 ∧ rEv P T tk pt S (rTg P T tk pt S b) k := bs_tb (fun b => rEv P T tk pt S (rTg P T tk pt S b) k) b 12
    refine bk72_4 hT hO ?_
    rw [r3, nIle (by omega) (by omega), nI_clamp (by omega), hE k hk', bit_n (by omega) (by omega), nIinc]
    refine ⟨fun c => by omega, fun _ => ⟨(nIin_iff (by omega)).mpr (by omega), ?_⟩⟩
    rintro v rfl v2 rfl
    by_cases q : rEv P T tk pt S (rTg P T tk pt S b) k
    · rw [bz_t (hzb.mpr ⟨hb, q⟩), nIinc]
      rw [cct_t (C := fun k => rEv P T tk pt S (rTg P T tk pt S b) k) q] at ih; exact ih
    · rw [bz_f (fun z => q (hzb.mp z).2), Int32.add_zero]
      rw [cct_f (C := fun k => rEv P T tk pt S (rTg P T tk pt S b) k) q] at ih; exact ih
theorem ev_liveness {t : Nat} (hd : 2 ≤ d) (hT : mWT m) (hC : rchC m c P T tk pt S) (h300 : S.1 ≤ 300) (ht : t < 10) (hQ : Q (some (.int (if rCm P T tk pt S t = S.1 then 2 else if 0 < rCm P T tk pt S t then 1 else 0))) m) : mEv d 74 [.ref c, .int (nI t)] m Q := by
  obtain ⟨hO, hok, h12, h13, h | ⟨_, h2, R, hE⟩⟩ := id hC
  · omega
  have hle : rCm P T tk pt S t ≤ S.1 := cct_le _
  refine mEv.at (by omega) G74 (Nat.le_of_ble_eq_true rfl) ?_
  refine bk74_0 hT hO ?_
  refine ev_comingTo (by omega) hT hC h300 (by omega) ?_
  refine bk74_5 hT hO ?_
  rw [R.2.2.1, nIeq (by omega) (by omega), nIle0 (by omega)]
  refine ⟨fun c1 => ⟨fun c2 => ?_, fun c2 => ?_⟩, fun c1 => ?_⟩
  · rw [if_neg c1, if_neg (by omega)] at hQ; exact hQ
  · rw [if_neg c1, if_pos (by omega)] at hQ; exact hQ
  · rw [if_pos (Classical.not_not.mp c1)] at hQ; exact hQ
/-- back along the way by which a marking was met, to the one behind k firings and one more -/
def rcAn (S : rcS) (k : Nat) : Nat → Nat → Nat
  | 0, a => a
  | f + 1, a => if S.2.2.2.2.1 a ≤ k + 1 then a else rcAn S k f (S.2.2.1 a)
theorem ev_stepTo {a : Nat} {x : Int32} (hd : 1 ≤ d) (hT : mWT m) (hC : rchC m c P T tk pt S) (h300 : S.1 ≤ 300) (ha : a < S.1) (hQ : Q (some (.int (cif (∃ j, j < S.2.2.2.2.1 a ∧ x = nI j) (oI S.2.2.2.1 (rcAn S x.toNatClampNeg (S.2.2.2.2.1 a) a)) (-1)))) m) : mEv d 76 [.ref c, .int (nI a), .int x] m Q := by
  obtain ⟨hO, hok, h12, h13, h | ⟨_, h2, R, hE⟩⟩ := id hC
  · omega
  obtain ⟨r1, r2, r3, r4, r5, r6, r7, r8, r9⟩ := id R
  have hfa := hok.2.2.2.2.2.2.2 a ha
  refine mEv.at (by omega) G76 (Nat.le_of_ble_eq_true rfl) ?_
  refine bk76_0 hT hO ?_
  rw [nI_clamp (by omega), r8 a ha]
  rcases pk_ix x (n := S.2.2.2.2.1 a) (by omega) with h | h | ⟨j, hj, rfl⟩
  · rw [cif_f] at hQ
    · exact ⟨fun _ => hQ, fun c => absurd h c⟩
    · rintro ⟨j, h1, rfl⟩; exact nI_nlt0 (by omega) h
  · rw [cif_f] at hQ
    · exact ⟨fun _ => hQ, fun _ => ⟨(nIin_iff (by omega)).mpr (by omega), fun c => absurd h (Int32.not_le.mpr c), fun _ => hQ⟩⟩
    · rintro ⟨j, h1, rfl⟩; rw [nIle (by omega) (by omega)] at h; omega
  · rw [cif_t ⟨j, hj, rfl⟩, nI_clamp (by omega)] at hQ
    refine ⟨fun c => absurd c (nI_nlt0 (by omega)), fun _ => ⟨(nIin_iff (by omega)).mpr (by omega), fun _ => ?_, fun c => absurd ((nI_ltI (by omega) (by omega)).mpr hj) c⟩⟩
    have go : ∀ f b st, b < S.1 → st + f ≤ 300 → S.2.2.2.2.1 b ≤ f + (j + 1) → rcAn S j f b = rcAn S j (S.2.2.2.2.1 a) a → mEs (d - 1) 76 c g76 (21, [some (.ref c), some (.int (nI a)), some (.int (nI j)), some (.int (nI b)), some (.int (nI st))], [], m) Q := by
      intro f
      induction f with
      | zero =>
        intro b st hb hst hf e
        have e' : b = rcAn S j (S.2.2.2.2.1 a) a := e
        have hfb := hok.2.2.2.2.2.2.2 b hb
        have q : Q (some (.int (m.2.2.1 (64 * c + 5) b))) m := by rw [r7 b hb, e']; exact hQ
        refine bk76_21 hT hO ?_
        rw [nI_clamp (by omega), r8 b hb, nIinc, nIle (by omega) (by omega), l300, nIle (by omega) (by omega)]
        exact ⟨fun _ => ⟨(nIin_iff (by omega)).mpr (by omega), q⟩, fun _ => ⟨(nIin_iff (by omega)).mpr (by omega), fun _ => ⟨(nIin_iff (by omega)).mpr (by omega), q⟩, fun c => by omega⟩⟩
      | succ f ih =>
        intro b st hb hst hf e
        have hfb := hok.2.2.2.2.2.2.2 b hb
        refine bk76_21 hT hO ?_
        rw [nI_clamp (by omega), r8 b hb, nIinc, nIle (by omega) (by omega), l300, nIle (by omega) (by omega), nIinc]
        refine ⟨fun c => by omega, fun _ => ⟨(nIin_iff (by omega)).mpr (by omega), fun c2 => ⟨(nIin_iff (by omega)).mpr (by omega), ?_⟩, fun c2 => ⟨(nIin_iff (by omega)).mpr (by omega), ?_⟩⟩⟩
        · have e' : b = rcAn S j (S.2.2.2.2.1 a) a := by
            rw [← e]
            show b = if S.2.2.2.2.1 b ≤ j + 1 then b else _
            rw [if_pos c2]
          rw [r7 b hb, e']; exact hQ
        · have hb0 : 0 < b := by
            rcases Nat.eq_zero_or_pos b with z | z
            · rw [z, hok.2.2.2.2.2.2.1] at c2; omega
            · exact z
          obtain ⟨o1, o2⟩ := hok.2.2.1 b hb0 hb
          rw [r6 b hb, oI_n (by omega)]
          rintro v rfl v2 rfl
          refine ih (S.2.2.1 b) (st + 1) (by omega) (by omega) (by omega) ?_
          rw [← e]
          show _ = if S.2.2.2.2.1 b ≤ j + 1 then b else _
          rw [if_neg c2]
    exact go _ a 0 ha (by omega) (by omega) rfl
end CRC5
