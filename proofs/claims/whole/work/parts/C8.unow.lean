/-! The class's unfolding as it is asked for: by wip/whole/gen_unow.py. -/
theorem lcl_unf {P T : Nat} {tk pt : Nat → Nat → Nat} {mk : Nat → Nat} : lcl (fun m c => unfC m c P T tk pt mk) := by
  intro c m m' g h
  simp only [unfC, ucE, ucC] at h ⊢
  simp only [g.o, g.nf (f := 1) (by decide), g.nf (f := 2) (by decide), g.nf (f := 3) (by decide), g.nf (f := 17) (by decide), g.i (j := 1) (by decide), g.i (j := 2) (by decide), g.i (j := 3) (by decide), g.i (j := 4) (by decide), g.i (j := 5) (by decide), g.i (j := 6) (by decide), g.i (j := 7) (by decide), g.i (j := 8) (by decide), g.i (j := 9) (by decide), g.i (j := 10) (by decide)]
  exact h
section UNOW
variable {d x n mv P T : Nat} {tk pt : Nat → Nat → Nat} {fi : Nat → Nat} {V : aV} {m : mMem} {Q : Option Value → mMem → Prop}

theorem ev_now121 (hd : 15 ≤ d) (hT : mWT m) (hS : cS m x n P T tk pt fi V) (hv : iF m x 8 = nI mv) (h0 : 0 < mv) (hm9 : mv < 2 ^ 31) (hn : ∀ a, gwN n a → ¬ gwN (64 * x + 12) a) (hC : caK m x 14 12 7 mv (fun _ _ => True) (fun m c => unfC m c P T tk pt V.1))
    (hQ : ∀ m', gFr (fun k f => k = x ∧ f = 14) (gwN (64 * x + 12)) 14 1000 m m' → caK m' x 14 12 7 mv (fun _ _ => True) (fun m c => unfC m c P T tk pt V.1) → unfC m' (64 * x + 12) P T tk pt V.1 → Q (some (.ref (64 * x + 12))) m') : mEv d 121 [.ref x] m Q := by
  obtain ⟨hO, hnx, hN, hk, s1, s2, s3, s4, s5, s6, s7, s8⟩ := id hS
  have hx0 := hO.2
  have hcx : ∀ a, a = x ∨ (64 * x + 4 ≤ a ∧ a ≤ 64 * x + 6) → ¬ gwN (64 * x + 12) a := fun a h1 h2 => by unfold gwN at h2; omega
  have hcx2 : ¬ gwN (64 * x + 12) x := hcx x (Or.inl rfl)
  refine mEv.at (by omega) G121 (Nat.le_of_ble_eq_true rfl) ?_
  have K : ∀ m1, gFr (fun k f => k = x ∧ f = 14) (gwN (64 * x + 12)) 14 1000 m m1 → m1.2.1 x 14 = .ref (64 * x + 12) → m1.1 (64 * x + 12) = some (.inr 7) → ((fun _ _ => True)) m1 (64 * x + 12) → (∃ v, v ≤ mv ∧ iF m1 (64 * x + 12) 0 = nI v ∧ (v = mv → ((fun m c => unfC m c P T tk pt V.1)) m1 (64 * x + 12))) → mEs (d - 1) 121 x g121 (18, [some (.ref x)], [], m1) Q := by
    intro m1 R hf hc hp hv1
    obtain ⟨v, v1, v2, v3⟩ := hv1
    have hS1 := hS.fr R hn (fun f z => hn n (Or.inl rfl) (by have := hS.ne; exact absurd z.1 this)) hcx (fun f hf z => by omega)
    have hv2 : iF m1 x 8 = nI mv := by rw [R.nf hcx2 (fun z => by omega)]; exact hv
    have hCo : m1.1 (64 * x + 12) = some (.inr 7) ∧ 64 * x + 12 ≠ 0 := ⟨hc, by omega⟩
    refine nw121_18 R.wt hS1.1 hCo hf hS1.2.1 (fun q => ?_) (fun q => ?_)
    · have e : v = mv := by
        rw [v2, hv2] at q
        exact (nIeq (by omega) (by omega)).mp q
      exact hQ m1 R (Or.inr ⟨hf, hc, hp, v, v1, v2, v3⟩) (v3 e)
    · refine ev_ubuild (r := 64 * x + 4) (lr := 10) (mk := V.1) (by omega) R.wt hCo hS1.2.2.1 hk hn (R.wt.arr hS1.1 0 rfl (by decide)) (by omega) (fun i hi => by omega) hS1.2.2.2.2.1 s2 ?_
      intro m2 R2 hok
      have R2' : gFr (fun k f => k = x ∧ f = 14) (gwN (64 * x + 12)) 0 0 m1 m2 := R2.fr (fun k hk => by unfold ubA at hk; unfold gwN; omega) (fun k f hk => Or.inr (Or.inl hk.1))
      have hCo2 := R2.ob hCo
      have hf2 : m2.2.1 x 14 = .ref (64 * x + 12) := by rw [R2.fl (fun z => by have := z.1; omega)]; exact hf
      refine nw121_bld R2.wt (R2.ob hS1.1) hCo2 hf2 ?_
      have e8 : iF m2 x 8 = nI mv := by rw [R2.nf (fun z => by have := z.1; omega)]; exact hv2
      rw [e8]
      have R3 : gFr (fun k f => k = x ∧ f = 14) (gwN (64 * x + 12)) 0 0 m2 (mSetF m2 (64 * x + 12) 0 (.int (nI mv))) := ((mTo.rf (A := fun _ => False) (F := fun k f => k = 64 * x + 12 ∧ f = 0) R2.wt).sF hCo2 ⟨rfl, rfl⟩ (by decide)).fr (fun k z => z.elim) (fun k f z => Or.inr (Or.inl z.1))
      have ok3 : ((fun m c => unfC m c P T tk pt V.1)) (mSetF m2 (64 * x + 12) 0 (.int (nI mv))) (64 * x + 12) := lcl_unf _ _ _ agN.s0 hok
      refine hQ _ ((R.tr (R2'.tr R3)).mono (fun _ _ z => z) (fun _ z => z) (by omega) (by omega)) (Or.inr ⟨?_, hCo2.1, trivial, mv, Nat.le_refl _, iF_s, fun _ => ok3⟩) ok3
      rw [rdF_nk (by omega)]; exact hf2
  rcases hC with ⟨a1, a2⟩ | ⟨a1, a2, a3, a4⟩
  · refine nw121_new hO (by omega) rfl rfl a1 (a2 _ (Or.inl rfl)) (fun r hr => a2 _ (Or.inr ?_)) ?_
    · have := ok122.2.2.1 r hr; omega
    · obtain ⟨R, o1, o2⟩ := made (c := 64 * x + 12) hT ok122 (by omega) a2
      have oX : (ctM (mNewO m (64 * x + 12) 7) (64 * x + 12) ow122).1 x = some (.inr 0) ∧ x ≠ 0 := R.ob hO hcx2
      have R1 : gFr (fun k f => k = x ∧ f = 14) (gwN (64 * x + 12)) 0 0 (ctM (mNewO m (64 * x + 12) 7) (64 * x + 12) ow122) (mSetF (ctM (mNewO m (64 * x + 12) 7) (64 * x + 12) ow122) x 14 (.ref (64 * x + 12))) := ((mTo.rf (A := fun _ => False) (F := fun k f => k = x ∧ f = 14) R.wt).sR oX ⟨rfl, rfl⟩ (by decide) (by decide)).fr (fun k z => z.elim) (fun k f z => Or.inl z)
      refine K _ (((R.mono (fun _ _ z => z.elim) (fun _ z => z) (Nat.le_refl _) (Nat.le_refl _)).tr R1).mono (fun _ _ z => z) (fun _ z => z) (by decide) (by decide)) rdF_same o1 trivial ⟨0, by omega, ?_, fun e => by omega⟩
      rw [iF_nk (by omega)]
      exact iF_of (o2 0 (by decide))

  · exact nw121_old hO a1 (K m ((gFr.rf hT).mono (fun _ _ z => z) (fun _ z => z) (by omega) (by omega)) a1 a2 a3 a4)
end UNOW
