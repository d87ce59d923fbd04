/-! The caches as they are asked for: by wip/whole/gen_cnow.py. -/
section CNOW
variable {d x n mv P T : Nat} {tk pt : Nat → Nat → Nat} {fi : Nat → Nat} {V : aV} {m : mMem} {Q : Option Value → mMem → Prop}

theorem ev_now39 (hd : 6 ≤ d) (hT : mWT m) (hS : cS m x n P T tk pt fi V) (hv : iF m x 8 = nI mv) (h0 : 0 < mv) (hm9 : mv < 2 ^ 31) (hn : ∀ a, gwN n a → ¬ gwN (64 * x + 7) a) (hC : caK m x 9 7 3 mv (fun _ _ => True) (fun m c => covC m c P T tk (cvZ P T tk pt V.1)))
    (hQ : ∀ m', gFr (fun k f => k = x ∧ f = 9) (gwN (64 * x + 7)) 5 2700 m m' → caK m' x 9 7 3 mv (fun _ _ => True) (fun m c => covC m c P T tk (cvZ P T tk pt V.1)) → covC m' (64 * x + 7) P T tk (cvZ P T tk pt V.1) → Q (some (.ref (64 * x + 7))) m') : mEv d 39 [.ref x] m Q := by
  obtain ⟨hO, hnx, hN, hk, s1, s2, s3, s4, s5, s6, s7, s8⟩ := id hS
  have hx0 := hO.2
  have hcx : ∀ a, a = x ∨ (64 * x + 4 ≤ a ∧ a ≤ 64 * x + 6) → ¬ gwN (64 * x + 7) a := fun a h1 h2 => by unfold gwN at h2; omega
  have hcx2 : ¬ gwN (64 * x + 7) x := hcx x (Or.inl rfl)
  refine mEv.at (by omega) G39 (Nat.le_of_ble_eq_true rfl) ?_
  have K : ∀ m1, gFr (fun k f => k = x ∧ f = 9) (gwN (64 * x + 7)) 5 2700 m m1 → m1.2.1 x 9 = .ref (64 * x + 7) → m1.1 (64 * x + 7) = some (.inr 3) → ((fun _ _ => True)) m1 (64 * x + 7) → (∃ v, v ≤ mv ∧ iF m1 (64 * x + 7) 0 = nI v ∧ (v = mv → ((fun m c => covC m c P T tk (cvZ P T tk pt V.1))) m1 (64 * x + 7))) → mEs (d - 1) 39 x g39 (18, [some (.ref x)], [], m1) Q := by
    intro m1 R hf hc hp hv1
    obtain ⟨v, v1, v2, v3⟩ := hv1
    have hS1 := hS.fr R hn (fun f z => hn n (Or.inl rfl) (by have := hS.ne; exact absurd z.1 this)) hcx (fun f hf z => by omega)
    have hv2 : iF m1 x 8 = nI mv := by rw [R.nf hcx2 (fun z => by omega)]; exact hv
    have hCo : m1.1 (64 * x + 7) = some (.inr 3) ∧ 64 * x + 7 ≠ 0 := ⟨hc, by omega⟩
    refine nw39_18 R.wt hS1.1 hCo hf hS1.2.1 (fun q => ?_) (fun q => ?_)
    · have e : v = mv := by
        rw [v2, hv2] at q
        exact (nIeq (by omega) (by omega)).mp q
      exact hQ m1 R (Or.inr ⟨hf, hc, hp, v, v1, v2, v3⟩) (v3 e)
    · refine ev_build (r := 64 * x + 4) (lr := 10) (mk := V.1) (by omega) R.wt hCo hS1.2.2.1 hk (fun e => hn n (Or.inl rfl) (Or.inl e)) (R.wt.arr hS1.1 0 rfl (by decide)) (by omega) (fun i hi => by omega) hS1.2.2.2.2.1 s2 ?_
      intro m2 R2 hok
      have R2' : gFr (fun k f => k = x ∧ f = 9) (gwN (64 * x + 7)) 0 0 m1 m2 := R2.fr (fun k hk => by unfold cbA at hk; unfold gwN; omega) (fun k f hk => Or.inr (Or.inl hk.1))
      have hCo2 := R2.ob hCo
      have hf2 : m2.2.1 x 9 = .ref (64 * x + 7) := by rw [R2.fl (fun z => by have := z.1; omega)]; exact hf
      refine nw39_bld R2.wt (R2.ob hS1.1) hCo2 hf2 ?_
      have e8 : iF m2 x 8 = nI mv := by rw [R2.nf (fun z => by have := z.1; omega)]; exact hv2
      rw [e8]
      have R3 : gFr (fun k f => k = x ∧ f = 9) (gwN (64 * x + 7)) 0 0 m2 (mSetF m2 (64 * x + 7) 0 (.int (nI mv))) := ((mTo.rf (A := fun _ => False) (F := fun k f => k = 64 * x + 7 ∧ f = 0) R2.wt).sF hCo2 ⟨rfl, rfl⟩ (by decide)).fr (fun k z => z.elim) (fun k f z => Or.inr (Or.inl z.1))
      have ok3 : ((fun m c => covC m c P T tk (cvZ P T tk pt V.1))) (mSetF m2 (64 * x + 7) 0 (.int (nI mv))) (64 * x + 7) := lcl_cov _ _ _ agN.s0 hok
      refine hQ _ ((R.tr (R2'.tr R3)).mono (fun _ _ z => z) (fun _ z => z) (by omega) (by omega)) (Or.inr ⟨?_, hCo2.1, trivial, mv, Nat.le_refl _, iF_s, fun _ => ok3⟩) ok3
      rw [rdF_nk (by omega)]; exact hf2
  rcases hC with ⟨a1, a2⟩ | ⟨a1, a2, a3, a4⟩
  · refine nw39_new hO (by omega) rfl rfl a1 (a2 _ (Or.inl rfl)) (fun r hr => a2 _ (Or.inr ?_)) ?_
    · have := ok40.2.2.1 r hr; omega
    · obtain ⟨R, o1, o2⟩ := made (c := 64 * x + 7) hT ok40 (by omega) a2
      have oX : (ctM (mNewO m (64 * x + 7) 3) (64 * x + 7) ow40).1 x = some (.inr 0) ∧ x ≠ 0 := R.ob hO hcx2
      have R1 : gFr (fun k f => k = x ∧ f = 9) (gwN (64 * x + 7)) 0 0 (ctM (mNewO m (64 * x + 7) 3) (64 * x + 7) ow40) (mSetF (ctM (mNewO m (64 * x + 7) 3) (64 * x + 7) ow40) x 9 (.ref (64 * x + 7))) := ((mTo.rf (A := fun _ => False) (F := fun k f => k = x ∧ f = 9) R.wt).sR oX ⟨rfl, rfl⟩ (by decide) (by decide)).fr (fun k z => z.elim) (fun k f z => Or.inl z)
      refine K _ (((R.mono (fun _ _ z => z.elim) (fun _ z => z) (Nat.le_refl _) (Nat.le_refl _)).tr R1).mono (fun _ _ z => z) (fun _ z => z) (by decide) (by decide)) rdF_same o1 trivial ⟨0, by omega, ?_, fun e => by omega⟩
      rw [iF_nk (by omega)]
      exact iF_of (o2 0 (by decide))

  · exact nw39_old hO a1 (K m ((gFr.rf hT).mono (fun _ _ z => z) (fun _ z => z) (by omega) (by omega)) a1 a2 a3 a4)

theorem ev_now58 (hd : 6 ≤ d) (hT : mWT m) (hS : cS m x n P T tk pt fi V) (hv : iF m x 8 = nI mv) (h0 : 0 < mv) (hm9 : mv < 2 ^ 31) (hn : ∀ a, gwN n a → ¬ gwN (64 * x + 8) a) (hC : caK m x 10 8 5 mv (fun _ _ => True) (fun m c => rchC m c P T tk pt (rcZ P T tk pt V.1)))
    (hQ : ∀ m', gFr (fun k f => k = x ∧ f = 10) (gwN (64 * x + 8)) 10 8700 m m' → caK m' x 10 8 5 mv (fun _ _ => True) (fun m c => rchC m c P T tk pt (rcZ P T tk pt V.1)) → rchC m' (64 * x + 8) P T tk pt (rcZ P T tk pt V.1) → Q (some (.ref (64 * x + 8))) m') : mEv d 58 [.ref x] m Q := by
  obtain ⟨hO, hnx, hN, hk, s1, s2, s3, s4, s5, s6, s7, s8⟩ := id hS
  have hx0 := hO.2
  have hcx : ∀ a, a = x ∨ (64 * x + 4 ≤ a ∧ a ≤ 64 * x + 6) → ¬ gwN (64 * x + 8) a := fun a h1 h2 => by unfold gwN at h2; omega
  have hcx2 : ¬ gwN (64 * x + 8) x := hcx x (Or.inl rfl)
  refine mEv.at (by omega) G58 (Nat.le_of_ble_eq_true rfl) ?_
  have K : ∀ m1, gFr (fun k f => k = x ∧ f = 10) (gwN (64 * x + 8)) 10 8700 m m1 → m1.2.1 x 10 = .ref (64 * x + 8) → m1.1 (64 * x + 8) = some (.inr 5) → ((fun _ _ => True)) m1 (64 * x + 8) → (∃ v, v ≤ mv ∧ iF m1 (64 * x + 8) 0 = nI v ∧ (v = mv → ((fun m c => rchC m c P T tk pt (rcZ P T tk pt V.1))) m1 (64 * x + 8))) → mEs (d - 1) 58 x g58 (18, [some (.ref x)], [], m1) Q := by
    intro m1 R hf hc hp hv1
    obtain ⟨v, v1, v2, v3⟩ := hv1
    have hS1 := hS.fr R hn (fun f z => hn n (Or.inl rfl) (by have := hS.ne; exact absurd z.1 this)) hcx (fun f hf z => by omega)
    have hv2 : iF m1 x 8 = nI mv := by rw [R.nf hcx2 (fun z => by omega)]; exact hv
    have hCo : m1.1 (64 * x + 8) = some (.inr 5) ∧ 64 * x + 8 ≠ 0 := ⟨hc, by omega⟩
    refine nw58_18 R.wt hS1.1 hCo hf hS1.2.1 (fun q => ?_) (fun q => ?_)
    · have e : v = mv := by
        rw [v2, hv2] at q
        exact (nIeq (by omega) (by omega)).mp q
      exact hQ m1 R (Or.inr ⟨hf, hc, hp, v, v1, v2, v3⟩) (v3 e)
    · refine ev_rBuild (r := 64 * x + 4) (lr := 10) (mk := V.1) (by omega) R.wt hCo hS1.2.2.1 hk (fun e => hn n (Or.inl rfl) (Or.inl e)) (R.wt.arr hS1.1 0 rfl (by decide)) (by omega) (fun i hi => by omega) hS1.2.2.2.2.1 s2 ?_
      intro m2 R2 hok
      have R2' : gFr (fun k f => k = x ∧ f = 10) (gwN (64 * x + 8)) 0 0 m1 m2 := R2.fr (fun k hk => by unfold rbA at hk; unfold gwN; omega) (fun k f hk => Or.inr (Or.inl hk.1))
      have hCo2 := R2.ob hCo
      have hf2 : m2.2.1 x 10 = .ref (64 * x + 8) := by rw [R2.fl (fun z => by have := z.1; omega)]; exact hf
      refine nw58_bld R2.wt (R2.ob hS1.1) hCo2 hf2 ?_
      have e8 : iF m2 x 8 = nI mv := by rw [R2.nf (fun z => by have := z.1; omega)]; exact hv2
      rw [e8]
      have R3 : gFr (fun k f => k = x ∧ f = 10) (gwN (64 * x + 8)) 0 0 m2 (mSetF m2 (64 * x + 8) 0 (.int (nI mv))) := ((mTo.rf (A := fun _ => False) (F := fun k f => k = 64 * x + 8 ∧ f = 0) R2.wt).sF hCo2 ⟨rfl, rfl⟩ (by decide)).fr (fun k z => z.elim) (fun k f z => Or.inr (Or.inl z.1))
      have ok3 : ((fun m c => rchC m c P T tk pt (rcZ P T tk pt V.1))) (mSetF m2 (64 * x + 8) 0 (.int (nI mv))) (64 * x + 8) := lcl_rch _ _ _ agN.s0 hok
      refine hQ _ ((R.tr (R2'.tr R3)).mono (fun _ _ z => z) (fun _ z => z) (by omega) (by omega)) (Or.inr ⟨?_, hCo2.1, trivial, mv, Nat.le_refl _, iF_s, fun _ => ok3⟩) ok3
      rw [rdF_nk (by omega)]; exact hf2
  rcases hC with ⟨a1, a2⟩ | ⟨a1, a2, a3, a4⟩
  · refine nw58_new hO (by omega) rfl rfl a1 (a2 _ (Or.inl rfl)) (fun r hr => a2 _ (Or.inr ?_)) ?_
    · have := ok59.2.2.1 r hr; omega
    · obtain ⟨R, o1, o2⟩ := made (c := 64 * x + 8) hT ok59 (by omega) a2
      have oX : (ctM (mNewO m (64 * x + 8) 5) (64 * x + 8) ow59).1 x = some (.inr 0) ∧ x ≠ 0 := R.ob hO hcx2
      have R1 : gFr (fun k f => k = x ∧ f = 10) (gwN (64 * x + 8)) 0 0 (ctM (mNewO m (64 * x + 8) 5) (64 * x + 8) ow59) (mSetF (ctM (mNewO m (64 * x + 8) 5) (64 * x + 8) ow59) x 10 (.ref (64 * x + 8))) := ((mTo.rf (A := fun _ => False) (F := fun k f => k = x ∧ f = 10) R.wt).sR oX ⟨rfl, rfl⟩ (by decide) (by decide)).fr (fun k z => z.elim) (fun k f z => Or.inl z)
      refine K _ (((R.mono (fun _ _ z => z.elim) (fun _ z => z) (Nat.le_refl _) (Nat.le_refl _)).tr R1).mono (fun _ _ z => z) (fun _ z => z) (by decide) (by decide)) rdF_same o1 trivial ⟨0, by omega, ?_, fun e => by omega⟩
      rw [iF_nk (by omega)]
      exact iF_of (o2 0 (by decide))

  · exact nw58_old hO a1 (K m ((gFr.rf hT).mono (fun _ _ z => z) (fun _ z => z) (by omega) (by omega)) a1 a2 a3 a4)

theorem ev_now97 (hd : 6 ≤ d) (hT : mWT m) (hS : cS m x n P T tk pt fi V) (hv : iF m x 7 = nI mv) (h0 : 0 < mv) (hm9 : mv < 2 ^ 31) (hn : ∀ a, gwN n a → ¬ gwN (64 * x + 11) a) (hC : caK m x 13 11 6 mv (fun _ _ => True) (fun m c => setC m c P T (tbS P tk) (tbS P pt)))
    (hQ : ∀ m', gFr (fun k f => k = x ∧ f = 13) (gwN (64 * x + 11)) 5 600 m m' → caK m' x 13 11 6 mv (fun _ _ => True) (fun m c => setC m c P T (tbS P tk) (tbS P pt)) → setC m' (64 * x + 11) P T (tbS P tk) (tbS P pt) → Q (some (.ref (64 * x + 11))) m') : mEv d 97 [.ref x] m Q := by
  obtain ⟨hO, hnx, hN, hk, s1, s2, s3, s4, s5, s6, s7, s8⟩ := id hS
  have hx0 := hO.2
  have hcx : ∀ a, a = x ∨ (64 * x + 4 ≤ a ∧ a ≤ 64 * x + 6) → ¬ gwN (64 * x + 11) a := fun a h1 h2 => by unfold gwN at h2; omega
  have hcx2 : ¬ gwN (64 * x + 11) x := hcx x (Or.inl rfl)
  refine mEv.at (by omega) G97 (Nat.le_of_ble_eq_true rfl) ?_
  have K : ∀ m1, gFr (fun k f => k = x ∧ f = 13) (gwN (64 * x + 11)) 5 600 m m1 → m1.2.1 x 13 = .ref (64 * x + 11) → m1.1 (64 * x + 11) = some (.inr 6) → ((fun _ _ => True)) m1 (64 * x + 11) → (∃ v, v ≤ mv ∧ iF m1 (64 * x + 11) 0 = nI v ∧ (v = mv → ((fun m c => setC m c P T (tbS P tk) (tbS P pt))) m1 (64 * x + 11))) → mEs (d - 1) 97 x g97 (18, [some (.ref x)], [], m1) Q := by
    intro m1 R hf hc hp hv1
    obtain ⟨v, v1, v2, v3⟩ := hv1
    have hS1 := hS.fr R hn (fun f z => hn n (Or.inl rfl) (by have := hS.ne; exact absurd z.1 this)) hcx (fun f hf z => by omega)
    have hv2 : iF m1 x 7 = nI mv := by rw [R.nf hcx2 (fun z => by omega)]; exact hv
    have hCo : m1.1 (64 * x + 11) = some (.inr 6) ∧ 64 * x + 11 ≠ 0 := ⟨hc, by omega⟩
    refine nw97_18 R.wt hS1.1 hCo hf hS1.2.1 (fun q => ?_) (fun q => ?_)
    · have e : v = mv := by
        rw [v2, hv2] at q
        exact (nIeq (by omega) (by omega)).mp q
      exact hQ m1 R (Or.inr ⟨hf, hc, hp, v, v1, v2, v3⟩) (v3 e)
    · refine ev_setBuild (by omega) R.wt hCo hS1.2.2.1 hk (fun e => hn n (Or.inl rfl) (Or.inl e)) ?_
      intro m2 R2 hok
      have R2' : gFr (fun k f => k = x ∧ f = 13) (gwN (64 * x + 11)) 0 0 m1 m2 := R2.fr (fun k hk => by unfold stA at hk; unfold gwN; omega) (fun k f hk => Or.inr (Or.inl hk.1))
      have hCo2 := R2.ob hCo
      have hf2 : m2.2.1 x 13 = .ref (64 * x + 11) := by rw [R2.fl (fun z => by have := z.1; omega)]; exact hf
      refine nw97_bld R2.wt (R2.ob hS1.1) hCo2 hf2 ?_
      have e8 : iF m2 x 7 = nI mv := by rw [R2.nf (fun z => by have := z.1; omega)]; exact hv2
      rw [e8]
      have R3 : gFr (fun k f => k = x ∧ f = 13) (gwN (64 * x + 11)) 0 0 m2 (mSetF m2 (64 * x + 11) 0 (.int (nI mv))) := ((mTo.rf (A := fun _ => False) (F := fun k f => k = 64 * x + 11 ∧ f = 0) R2.wt).sF hCo2 ⟨rfl, rfl⟩ (by decide)).fr (fun k z => z.elim) (fun k f z => Or.inr (Or.inl z.1))
      have ok3 : ((fun m c => setC m c P T (tbS P tk) (tbS P pt))) (mSetF m2 (64 * x + 11) 0 (.int (nI mv))) (64 * x + 11) := lcl_set _ _ _ agN.s0 hok
      refine hQ _ ((R.tr (R2'.tr R3)).mono (fun _ _ z => z) (fun _ z => z) (by omega) (by omega)) (Or.inr ⟨?_, hCo2.1, trivial, mv, Nat.le_refl _, iF_s, fun _ => ok3⟩) ok3
      rw [rdF_nk (by omega)]; exact hf2
  rcases hC with ⟨a1, a2⟩ | ⟨a1, a2, a3, a4⟩
  · refine nw97_new hO (by omega) rfl rfl a1 (a2 _ (Or.inl rfl)) (fun r hr => a2 _ (Or.inr ?_)) ?_
    · have := ok98.2.2.1 r hr; omega
    · obtain ⟨R, o1, o2⟩ := made (c := 64 * x + 11) hT ok98 (by omega) a2
      have oX : (ctM (mNewO m (64 * x + 11) 6) (64 * x + 11) ow98).1 x = some (.inr 0) ∧ x ≠ 0 := R.ob hO hcx2
      have R1 : gFr (fun k f => k = x ∧ f = 13) (gwN (64 * x + 11)) 0 0 (ctM (mNewO m (64 * x + 11) 6) (64 * x + 11) ow98) (mSetF (ctM (mNewO m (64 * x + 11) 6) (64 * x + 11) ow98) x 13 (.ref (64 * x + 11))) := ((mTo.rf (A := fun _ => False) (F := fun k f => k = x ∧ f = 13) R.wt).sR oX ⟨rfl, rfl⟩ (by decide) (by decide)).fr (fun k z => z.elim) (fun k f z => Or.inl z)
      refine K _ (((R.mono (fun _ _ z => z.elim) (fun _ z => z) (Nat.le_refl _) (Nat.le_refl _)).tr R1).mono (fun _ _ z => z) (fun _ z => z) (by decide) (by decide)) rdF_same o1 trivial ⟨0, by omega, ?_, fun e => by omega⟩
      rw [iF_nk (by omega)]
      exact iF_of (o2 0 (by decide))

  · exact nw97_old hO a1 (K m ((gFr.rf hT).mono (fun _ _ z => z) (fun _ z => z) (by omega) (by omega)) a1 a2 a3 a4)

theorem ev_now79 (hd : 6 ≤ d) (hT : mWT m) (hS : cS m x n P T tk pt fi V) (hv : iF m x 7 = nI mv) (h0 : 0 < mv) (hm9 : mv < 2 ^ 31) (hn : ∀ a, gwN n a → ¬ gwN (64 * x + 9) a) (hC : caK m x 11 9 4 mv (fun m c => ∃ ra rb, fl0 m c True ra rb) (fun m c => flC m c (wP True P T) (wE True P T) True (dF True tk pt)))
    (hQ : ∀ m', gFr (fun k f => k = x ∧ f = 11) (gwN (64 * x + 9)) 8 7300 m m' → caK m' x 11 9 4 mv (fun m c => ∃ ra rb, fl0 m c True ra rb) (fun m c => flC m c (wP True P T) (wE True P T) True (dF True tk pt)) → flC m' (64 * x + 9) (wP True P T) (wE True P T) True (dF True tk pt) → Q (some (.ref (64 * x + 9))) m') : mEv d 79 [.ref x] m Q := by
  obtain ⟨hO, hnx, hN, hk, s1, s2, s3, s4, s5, s6, s7, s8⟩ := id hS
  have hx0 := hO.2
  have hcx : ∀ a, a = x ∨ (64 * x + 4 ≤ a ∧ a ≤ 64 * x + 6) → ¬ gwN (64 * x + 9) a := fun a h1 h2 => by unfold gwN at h2; omega
  have hcx2 : ¬ gwN (64 * x + 9) x := hcx x (Or.inl rfl)
  refine mEv.at (by omega) G79 (Nat.le_of_ble_eq_true rfl) ?_
  have K : ∀ m1, gFr (fun k f => k = x ∧ f = 11) (gwN (64 * x + 9)) 8 7300 m m1 → m1.2.1 x 11 = .ref (64 * x + 9) → m1.1 (64 * x + 9) = some (.inr 4) → ((fun m c => ∃ ra rb, fl0 m c True ra rb)) m1 (64 * x + 9) → (∃ v, v ≤ mv ∧ iF m1 (64 * x + 9) 0 = nI v ∧ (v = mv → ((fun m c => flC m c (wP True P T) (wE True P T) True (dF True tk pt))) m1 (64 * x + 9))) → mEs (d - 1) 79 x g79 (19, [some (.ref x)], [], m1) Q := by
    intro m1 R hf hc hp hv1
    obtain ⟨v, v1, v2, v3⟩ := hv1
    have hS1 := hS.fr R hn (fun f z => hn n (Or.inl rfl) (by have := hS.ne; exact absurd z.1 this)) hcx (fun f hf z => by omega)
    have hv2 : iF m1 x 7 = nI mv := by rw [R.nf hcx2 (fun z => by omega)]; exact hv
    have hCo : m1.1 (64 * x + 9) = some (.inr 4) ∧ 64 * x + 9 ≠ 0 := ⟨hc, by omega⟩
    refine nw79_18 R.wt hS1.1 hCo hf hS1.2.1 (fun q => ?_) (fun q => ?_)
    · have e : v = mv := by
        rw [v2, hv2] at q
        exact (nIeq (by omega) (by omega)).mp q
      exact hQ m1 R (Or.inr ⟨hf, hc, hp, v, v1, v2, v3⟩) (v3 e)
    · obtain ⟨ra, rb, hB⟩ := hp
      refine ev_flBuild (by omega) R.wt hB hS1.2.2.1 hk (fun e => hn n (Or.inl rfl) (Or.inl e)) ?_
      intro m2 R2 hok
      have R2' : gFr (fun k f => k = x ∧ f = 11) (gwN (64 * x + 9)) 0 0 m1 m2 := R2.fr (fun k hk => by unfold fsA at hk; unfold gwN; omega) (fun k f hk => Or.inr (Or.inl hk.1))
      have hCo2 := R2.ob hCo
      have hf2 : m2.2.1 x 11 = .ref (64 * x + 9) := by rw [R2.fl (fun z => by have := z.1; omega)]; exact hf
      refine nw79_bld R2.wt (R2.ob hS1.1) hCo2 hf2 ?_
      have e8 : iF m2 x 7 = nI mv := by rw [R2.nf (fun z => by have := z.1; omega)]; exact hv2
      rw [e8]
      have R3 : gFr (fun k f => k = x ∧ f = 11) (gwN (64 * x + 9)) 0 0 m2 (mSetF m2 (64 * x + 9) 0 (.int (nI mv))) := ((mTo.rf (A := fun _ => False) (F := fun k f => k = 64 * x + 9 ∧ f = 0) R2.wt).sF hCo2 ⟨rfl, rfl⟩ (by decide)).fr (fun k z => z.elim) (fun k f z => Or.inr (Or.inl z.1))
      have ok3 : ((fun m c => flC m c (wP True P T) (wE True P T) True (dF True tk pt))) (mSetF m2 (64 * x + 9) 0 (.int (nI mv))) (64 * x + 9) := lcl_fl _ _ _ agN.s0 hok
      refine hQ _ ((R.tr (R2'.tr R3)).mono (fun _ _ z => z) (fun _ z => z) (by omega) (by omega)) (Or.inr ⟨?_, hCo2.1, flC.b0 ok3, mv, Nat.le_refl _, iF_s, fun _ => ok3⟩) ok3
      rw [rdF_nk (by omega)]; exact hf2
  rcases hC with ⟨a1, a2⟩ | ⟨a1, a2, a3, a4⟩
  · refine nw79_new hO (by omega) rfl rfl a1 (a2 _ (Or.inl rfl)) (fun r hr => a2 _ (Or.inr ?_)) ?_
    · have := ok80.2.2.1 r hr; omega
    · obtain ⟨R, o1, o2⟩ := made (c := 64 * x + 9) hT ok80 (by omega) a2
      have oC : (ctM (mNewO m (64 * x + 9) 4) (64 * x + 9) ow80).1 (64 * x + 9) = some (.inr 4) ∧ 64 * x + 9 ≠ 0 := ⟨o1, by omega⟩
      have oX : (ctM (mNewO m (64 * x + 9) 4) (64 * x + 9) ow80).1 x = some (.inr 0) ∧ x ≠ 0 := R.ob hO hcx2
      have R0 : gFr (fun k f => k = x ∧ f = 11) (gwN (64 * x + 9)) 0 0 (ctM (mNewO m (64 * x + 9) 4) (64 * x + 9) ow80) (mSetF (mSetF (ctM (mNewO m (64 * x + 9) 4) (64 * x + 9) ow80) (64 * x + 9) 3 (.int 1)) x 11 (.ref (64 * x + 9))) := (((mTo.rf (A := fun _ => False) (F := fun k f => (k = x ∧ f = 11) ∨ (k = 64 * x + 9 ∧ f = 3)) R.wt).sF oC (Or.inr ⟨rfl, rfl⟩) (by decide)).sR oX (Or.inl ⟨rfl, rfl⟩) (by decide) (by decide)).fr (fun k z => z.elim) (fun k f z => z.elim Or.inl (fun z => Or.inr (Or.inl z.1)))
      have hin := ctM_in (k := 64 * x + 9) ow80 (mNewO m (64 * x + 9) 4) ok80.1 ok80.2.1
      have i1 := hin (4, 1, .int, 3000) (by decide)
      have i2 := hin (5, 2, .int, 3000) (by decide)
      have j1 : (mSetF (mSetF (ctM (mNewO m (64 * x + 9) 4) (64 * x + 9) ow80) (64 * x + 9) 3 (.int 1)) x 11 (.ref (64 * x + 9))).1 (64 * (64 * x + 9) + 1) = some (.inl (.int, 3000)) := by rw [ty_F, ty_F]; exact i1.1
      have j2 : (mSetF (mSetF (ctM (mNewO m (64 * x + 9) 4) (64 * x + 9) ow80) (64 * x + 9) 3 (.int 1)) x 11 (.ref (64 * x + 9))).1 (64 * (64 * x + 9) + 2) = some (.inl (.int, 3000)) := by rw [ty_F, ty_F]; exact i2.1
      refine K _ (((R.mono (fun _ _ z => z.elim) (fun _ z => z) (Nat.le_refl _) (Nat.le_refl _)).tr R0).mono (fun _ _ z => z) (fun _ z => z) (by decide) (by decide)) rdF_same o1 ⟨64 * (64 * x + 9) + 1, 64 * (64 * x + 9) + 2, oC, ?_, ?_, ⟨j1, by omega⟩, ⟨j2, by omega⟩, Or.inl ⟨rfl, rfl⟩, ?_⟩ ⟨0, by omega, ?_, fun e => by omega⟩
      · rw [rdF_nk (by omega), rdF_ne (by decide)]; exact i1.2.1
      · rw [rdF_nk (by omega), rdF_ne (by decide)]; exact i2.2.1
      · rw [iF_nk (by omega), iF_s]; exact (bz_t trivial).symm
      · rw [iF_nk (by omega), iF_nf (by decide)]
        exact iF_of (o2 0 (by decide))

  · exact nw79_old hO a1 (K m ((gFr.rf hT).mono (fun _ _ z => z) (fun _ z => z) (by omega) (by omega)) a1 a2 a3 a4)

theorem ev_now92 (hd : 6 ≤ d) (hT : mWT m) (hS : cS m x n P T tk pt fi V) (hv : iF m x 7 = nI mv) (h0 : 0 < mv) (hm9 : mv < 2 ^ 31) (hn : ∀ a, gwN n a → ¬ gwN (64 * x + 10) a) (hC : caK m x 12 10 4 mv (fun m c => ∃ ra rb, fl0 m c False ra rb) (fun m c => flC m c (wP False P T) (wE False P T) False (dF False tk pt)))
    (hQ : ∀ m', gFr (fun k f => k = x ∧ f = 12) (gwN (64 * x + 10)) 8 7300 m m' → caK m' x 12 10 4 mv (fun m c => ∃ ra rb, fl0 m c False ra rb) (fun m c => flC m c (wP False P T) (wE False P T) False (dF False tk pt)) → flC m' (64 * x + 10) (wP False P T) (wE False P T) False (dF False tk pt) → Q (some (.ref (64 * x + 10))) m') : mEv d 92 [.ref x] m Q := by
  obtain ⟨hO, hnx, hN, hk, s1, s2, s3, s4, s5, s6, s7, s8⟩ := id hS
  have hx0 := hO.2
  have hcx : ∀ a, a = x ∨ (64 * x + 4 ≤ a ∧ a ≤ 64 * x + 6) → ¬ gwN (64 * x + 10) a := fun a h1 h2 => by unfold gwN at h2; omega
  have hcx2 : ¬ gwN (64 * x + 10) x := hcx x (Or.inl rfl)
  refine mEv.at (by omega) G92 (Nat.le_of_ble_eq_true rfl) ?_
  have K : ∀ m1, gFr (fun k f => k = x ∧ f = 12) (gwN (64 * x + 10)) 8 7300 m m1 → m1.2.1 x 12 = .ref (64 * x + 10) → m1.1 (64 * x + 10) = some (.inr 4) → ((fun m c => ∃ ra rb, fl0 m c False ra rb)) m1 (64 * x + 10) → (∃ v, v ≤ mv ∧ iF m1 (64 * x + 10) 0 = nI v ∧ (v = mv → ((fun m c => flC m c (wP False P T) (wE False P T) False (dF False tk pt))) m1 (64 * x + 10))) → mEs (d - 1) 92 x g92 (19, [some (.ref x)], [], m1) Q := by
    intro m1 R hf hc hp hv1
    obtain ⟨v, v1, v2, v3⟩ := hv1
    have hS1 := hS.fr R hn (fun f z => hn n (Or.inl rfl) (by have := hS.ne; exact absurd z.1 this)) hcx (fun f hf z => by omega)
    have hv2 : iF m1 x 7 = nI mv := by rw [R.nf hcx2 (fun z => by omega)]; exact hv
    have hCo : m1.1 (64 * x + 10) = some (.inr 4) ∧ 64 * x + 10 ≠ 0 := ⟨hc, by omega⟩
    refine nw92_18 R.wt hS1.1 hCo hf hS1.2.1 (fun q => ?_) (fun q => ?_)
    · have e : v = mv := by
        rw [v2, hv2] at q
        exact (nIeq (by omega) (by omega)).mp q
      exact hQ m1 R (Or.inr ⟨hf, hc, hp, v, v1, v2, v3⟩) (v3 e)
    · obtain ⟨ra, rb, hB⟩ := hp
      refine ev_flBuild (by omega) R.wt hB hS1.2.2.1 hk (fun e => hn n (Or.inl rfl) (Or.inl e)) ?_
      intro m2 R2 hok
      have R2' : gFr (fun k f => k = x ∧ f = 12) (gwN (64 * x + 10)) 0 0 m1 m2 := R2.fr (fun k hk => by unfold fsA at hk; unfold gwN; omega) (fun k f hk => Or.inr (Or.inl hk.1))
      have hCo2 := R2.ob hCo
      have hf2 : m2.2.1 x 12 = .ref (64 * x + 10) := by rw [R2.fl (fun z => by have := z.1; omega)]; exact hf
      refine nw92_bld R2.wt (R2.ob hS1.1) hCo2 hf2 ?_
      have e8 : iF m2 x 7 = nI mv := by rw [R2.nf (fun z => by have := z.1; omega)]; exact hv2
      rw [e8]
      have R3 : gFr (fun k f => k = x ∧ f = 12) (gwN (64 * x + 10)) 0 0 m2 (mSetF m2 (64 * x + 10) 0 (.int (nI mv))) := ((mTo.rf (A := fun _ => False) (F := fun k f => k = 64 * x + 10 ∧ f = 0) R2.wt).sF hCo2 ⟨rfl, rfl⟩ (by decide)).fr (fun k z => z.elim) (fun k f z => Or.inr (Or.inl z.1))
      have ok3 : ((fun m c => flC m c (wP False P T) (wE False P T) False (dF False tk pt))) (mSetF m2 (64 * x + 10) 0 (.int (nI mv))) (64 * x + 10) := lcl_fl _ _ _ agN.s0 hok
      refine hQ _ ((R.tr (R2'.tr R3)).mono (fun _ _ z => z) (fun _ z => z) (by omega) (by omega)) (Or.inr ⟨?_, hCo2.1, flC.b0 ok3, mv, Nat.le_refl _, iF_s, fun _ => ok3⟩) ok3
      rw [rdF_nk (by omega)]; exact hf2
  rcases hC with ⟨a1, a2⟩ | ⟨a1, a2, a3, a4⟩
  · refine nw92_new hO (by omega) rfl rfl a1 (a2 _ (Or.inl rfl)) (fun r hr => a2 _ (Or.inr ?_)) ?_
    · have := ok80.2.2.1 r hr; omega
    · obtain ⟨R, o1, o2⟩ := made (c := 64 * x + 10) hT ok80 (by omega) a2
      have oC : (ctM (mNewO m (64 * x + 10) 4) (64 * x + 10) ow80).1 (64 * x + 10) = some (.inr 4) ∧ 64 * x + 10 ≠ 0 := ⟨o1, by omega⟩
      have oX : (ctM (mNewO m (64 * x + 10) 4) (64 * x + 10) ow80).1 x = some (.inr 0) ∧ x ≠ 0 := R.ob hO hcx2
      have R0 : gFr (fun k f => k = x ∧ f = 12) (gwN (64 * x + 10)) 0 0 (ctM (mNewO m (64 * x + 10) 4) (64 * x + 10) ow80) (mSetF (mSetF (ctM (mNewO m (64 * x + 10) 4) (64 * x + 10) ow80) (64 * x + 10) 3 (.int 0)) x 12 (.ref (64 * x + 10))) := (((mTo.rf (A := fun _ => False) (F := fun k f => (k = x ∧ f = 12) ∨ (k = 64 * x + 10 ∧ f = 3)) R.wt).sF oC (Or.inr ⟨rfl, rfl⟩) (by decide)).sR oX (Or.inl ⟨rfl, rfl⟩) (by decide) (by decide)).fr (fun k z => z.elim) (fun k f z => z.elim Or.inl (fun z => Or.inr (Or.inl z.1)))
      have hin := ctM_in (k := 64 * x + 10) ow80 (mNewO m (64 * x + 10) 4) ok80.1 ok80.2.1
      have i1 := hin (4, 1, .int, 3000) (by decide)
      have i2 := hin (5, 2, .int, 3000) (by decide)
      have j1 : (mSetF (mSetF (ctM (mNewO m (64 * x + 10) 4) (64 * x + 10) ow80) (64 * x + 10) 3 (.int 0)) x 12 (.ref (64 * x + 10))).1 (64 * (64 * x + 10) + 1) = some (.inl (.int, 3000)) := by rw [ty_F, ty_F]; exact i1.1
      have j2 : (mSetF (mSetF (ctM (mNewO m (64 * x + 10) 4) (64 * x + 10) ow80) (64 * x + 10) 3 (.int 0)) x 12 (.ref (64 * x + 10))).1 (64 * (64 * x + 10) + 2) = some (.inl (.int, 3000)) := by rw [ty_F, ty_F]; exact i2.1
      refine K _ (((R.mono (fun _ _ z => z.elim) (fun _ z => z) (Nat.le_refl _) (Nat.le_refl _)).tr R0).mono (fun _ _ z => z) (fun _ z => z) (by decide) (by decide)) rdF_same o1 ⟨64 * (64 * x + 10) + 1, 64 * (64 * x + 10) + 2, oC, ?_, ?_, ⟨j1, by omega⟩, ⟨j2, by omega⟩, Or.inl ⟨rfl, rfl⟩, ?_⟩ ⟨0, by omega, ?_, fun e => by omega⟩
      · rw [rdF_nk (by omega), rdF_ne (by decide)]; exact i1.2.1
      · rw [rdF_nk (by omega), rdF_ne (by decide)]; exact i2.2.1
      · rw [iF_nk (by omega), iF_s]; exact (bz_f not_false).symm
      · rw [iF_nk (by omega), iF_nf (by decide)]
        exact iF_of (o2 0 (by decide))

  · exact nw92_old hO a1 (K m ((gFr.rf hT).mono (fun _ _ z => z) (fun _ z => z) (by omega) (by omega)) a1 a2 a3 a4)
end CNOW
