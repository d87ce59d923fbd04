/-! The model: back(), and what reached(), dead(), alive(), way() answer. -/
theorem cct_add {D : Nat → Prop} {k : Nat} (hn : ¬ D k) : ∀ N, k < N → cct (fun j => D j ∨ j = k) N = cct D N + 1 := by
  have low : ∀ N, N ≤ k → cct (fun j => D j ∨ j = k) N = cct D N := by
    intro N
    induction N with
    | zero => intro _; rfl
    | succ N ih =>
      intro h
      by_cases q : D N
      · rw [cct_t (C := fun j => D j ∨ j = k) (Or.inl q), cct_t q, ih (by omega)]
      · rw [cct_f (C := fun j => D j ∨ j = k) (fun z => z.elim q (by omega)), cct_f q, ih (by omega)]
  intro N
  induction N with
  | zero => intro h; omega
  | succ N ih =>
    intro h
    by_cases e : N = k
    · subst e
      rw [cct_t (C := fun j => D j ∨ j = N) (Or.inr rfl), cct_f hn, low N (Nat.le_refl _)]
    · by_cases q : D N
      · rw [cct_t (C := fun j => D j ∨ j = k) (Or.inl q), cct_t q, ih (by omega)]
      · rw [cct_f (C := fun j => D j ∨ j = k) (fun z => z.elim q e), cct_f q, ih (by omega)]
theorem cct_cg {C D : Nat → Prop} : ∀ N, (∀ k, k < N → (C k ↔ D k)) → cct C N = cct D N := by
  intro N
  induction N with
  | zero => intro _; rfl
  | succ N ih =>
    intro h
    have e := ih (fun k hk => h k (by omega))
    have hN := h N (Nat.lt_succ_self _)
    by_cases q : C N
    · rw [cct_t q, cct_t (hN.mp q), e]
    · rw [cct_f q, cct_f (fun z => q (hN.mpr z)), e]
theorem cct_pos {C : Nat → Prop} {N k : Nat} (h : k < N) (hc : C k) : 0 < cct C N := by
  induction N with
  | zero => omega
  | succ N ih =>
    by_cases e : k = N
    · subst e; rw [cct_t hc]; omega
    · have := ih (by omega)
      by_cases q : C N
      · rw [cct_t q]; omega
      · rw [cct_f q]; omega
theorem cct_ex {C : Nat → Prop} {N : Nat} (h : 0 < cct C N) : ∃ k, k < N ∧ C k := by
  refine Classical.byContradiction fun z => ?_
  have : ∀ M, M ≤ N → cct C M = 0 := by
    intro M
    induction M with
    | zero => intro _; rfl
    | succ M ih => intro hM; rw [cct_f (fun q => z ⟨M, by omega, q⟩), ih (by omega)]
  rw [this N (Nat.le_refl _)] at h
  exact absurd h (Nat.lt_irrefl _)
def mg0 (o k f : Nat) : Prop := k = o ∧ (f = 0 ∨ f = 27 ∨ f = 33)
def mgB (o k : Nat) : Prop := 64 * o + 15 ≤ k ∧ k ≤ 64 * o + 20
section MRC2
variable {d o n P T N r lr : Nat} {tk pt : Nat → Nat → Nat} {fi mk row : Nat → Nat} {h : Nat → Nat → Nat} {V : aV} {S : rcS} {C : Nat → Prop} {m : mMem} {Q : Option Value → mMem → Prop}
theorem mRch.to {A : Nat → Prop} {F : Nat → Nat → Prop} {m' : mMem} (h : mRch m o P T tk pt S) (ht : mTo A F m m') (h1 : ∀ i, 15 ≤ i → i ≤ 19 → ¬ A (64 * o + i)) (h5 : ¬ F o 33) : mRch m' o P T tk pt S := by
  obtain ⟨r1, r2, r3⟩ := h
  refine ⟨r1, r2.to ht (fun i hi => h1 i (by omega) (by omega)) h5, fun h3 => ⟨?_, (r3 h3).2⟩⟩
  unfold mnR
  rw [ht.i (h1 19 (by omega) (by omega))]
  exact (r3 h3).1
theorem ev_back (hd : 1 ≤ d) (hT : mWT m) (hO : m.1 o = some (.inr 8) ∧ o ≠ 0) (h7 : iF m o 7 = nI T) (hk : T ≤ 10) (hR : mRch m o P T tk pt S) (h300 : S.1 ≤ 300) (hC : ∀ k, k < S.1 → m.2.2.1 (64 * o + 20) k = bz (C k))
    (hQ : ∀ m', mTo (fun k => k = 64 * o + 20) (fun _ _ => False) m m' → Q (some (.int (nI (cct (fun k => rEv P T tk pt S C k) S.1)))) m') : mEv d 195 [.ref o] m Q := by
  obtain ⟨hok, hr, hnx⟩ := id hR
  obtain ⟨hX, hN⟩ := hnx h300
  have h33 := hr.1
  refine mEv.at (by omega) G195 (Nat.le_of_ble_eq_true rfl) ?_
  refine bk195_0 hT hO ?_
  -- what is counted at the end
  have cnt : ∀ (m' : mMem), mTo (fun k => k = 64 * o + 20) (fun _ _ => False) m m' → (∀ k, k < S.1 → m'.2.2.1 (64 * o + 20) k = bz (rEv P T tk pt S C k)) → ∀ (x1 : Int32) (x4 : Option Value), mEs (d - 1) 195 o g195 (94, [some (.ref o), some (.int x1), some (.int 0), some (.int 0), x4], [], m') Q := by
    intro m' T' hD x1 x4
    refine upto (e := S.1) (X := fun k => mEs (d - 1) 195 o g195 (94, [some (.ref o), some (.int x1), some (.int (nI (cct (fun k => rEv P T tk pt S C k) k))), some (.int (nI k)), x4], [], m') Q) ?_ ?_ 0 (Nat.zero_le _)
    · refine bk195_94 T'.wt (T'.ob hO) ?_
      rw [T'.nf id, h33, nIle (by omega) (by omega)]
      exact ⟨fun _ => hQ m' T', fun c => absurd (Nat.le_refl _) c⟩
    · intro k hk' ih
      refine bk195_94 T'.wt (T'.ob hO) ?_
      rw [T'.nf id, h33, nIle (by omega) (by omega), nI_clamp (by omega), hD k hk', bz_0, nIinc, nIinc, Int32.add_zero]
      refine ⟨fun c => by omega, fun _ => ⟨(nIin_iff (by omega)).mpr (by omega), fun cz => ?_, fun cz => ?_⟩⟩
      · rintro v rfl v2 rfl
        rw [cct_f (C := fun k => rEv P T tk pt S C k) cz] at ih; exact ih
      · rintro v rfl v2 rfl
        rw [cct_t (C := fun k => rEv P T tk pt S C k) (Classical.not_not.mp cz)] at ih; exact ih
  have main : ∀ n (D : Nat → Prop) (more : Int32) (o2 o3 o4 : Option Value) (m' : mMem), S.1 < cct D S.1 + n → mTo (fun k => k = 64 * o + 20) (fun _ _ => False) m m' → (∀ k, k < S.1 → m'.2.2.1 (64 * o + 20) k = bz (D k)) → (∀ k, k < S.1 → C k → D k) → (∀ k, k < S.1 → D k → rEv P T tk pt S C k) → (more = 0 → ∀ k, k < S.1 → ∀ t, t < T → rdyS P tk pt (S.2.1 k) t → D (S.2.2.2.2.2 k t) → D k) → mEs (d - 1) 195 o g195 (2, [some (.ref o), some (.int more), o2, o3, o4], [], m') Q := by
    intro n
    induction n with
    | zero =>
      intro D more o2 o3 o4 m' hn
      have hle : cct D S.1 ≤ S.1 := cct_le _
      omega
    | succ n ihn =>
      intro D0 more o2 o3 o4 m0 hn T0 hD0 hCD0 hDE0 hcl0
      refine bk195_2 T0.wt (T0.ob hO) ⟨fun c0 => ?_, fun _ => ?_⟩
      · refine cnt m0 T0 (fun k hk' => ?_) _ _
        rw [hD0 k hk']
        refine bz_cg ⟨hDE0 k hk', fun z => ?_⟩
        exact rEv_ind (X := D0) hN hCD0 (fun k t hk' ht hr h => hcl0 c0 k hk' t ht hr h) k hk' z
      · refine upto (e := S.1) (X := fun k => ∀ (D : Nat → Prop) (more : Int32) (o3 o4 : Option Value) (m' : mMem), cct D0 S.1 ≤ cct D S.1 → (¬ more = 0 → cct D0 S.1 < cct D S.1) → mTo (fun k => k = 64 * o + 20) (fun _ _ => False) m m' → (∀ k, k < S.1 → m'.2.2.1 (64 * o + 20) k = bz (D k)) → (∀ k, k < S.1 → C k → D k) → (∀ k, k < S.1 → D k → rEv P T tk pt S C k) → (more = 0 → ∀ j, j < k → ∀ t, t < T → rdyS P tk pt (S.2.1 j) t → D (S.2.2.2.2.2 j t) → D j) → mEs (d - 1) 195 o g195 (10, [some (.ref o), some (.int more), some (.int (nI k)), o3, o4], [], m') Q) ?_ ?_ 0 (Nat.zero_le _) D0 0 _ _ m0 (Nat.le_refl _) (fun z => absurd rfl z) T0 hD0 hCD0 hDE0 (fun _ j hj => absurd hj (Nat.not_lt_zero _))
        · intro D more o3 o4 m' h1 h2 T' hD hCD hDE hcl
          refine bk195_10 T'.wt (T'.ob hO) ?_
          rw [T'.nf id, h33, nIle (by omega) (by omega)]
          refine ⟨fun _ => ?_, fun c => absurd (Nat.le_refl _) c⟩
          by_cases q : more = 0
          · -- all is closed: one turn more
            refine bk195_2 T'.wt (T'.ob hO) ⟨fun _ => ?_, fun c => absurd q c⟩
            refine cnt m' T' (fun k hk' => ?_) _ _
            rw [hD k hk']
            refine bz_cg ⟨hDE k hk', fun z => ?_⟩
            exact rEv_ind (X := D) hN hCD (fun k t hk' ht hr h => hcl q k hk' t ht hr h) k hk' z
          · have := h2 q
            exact ihn D more _ _ _ m' (by omega) T' hD hCD hDE (fun z => absurd z q)
        · intro k hk' ih D more o3 o4 m' h1 h2 T' hD hCD hDE hcl
          refine bk195_10 T'.wt (T'.ob hO) ?_
          rw [T'.nf id, h33, nIle (by omega) (by omega)]
          refine ⟨fun c => by omega, fun _ => ?_⟩
          -- behind this one's transitions
          have nxt : ∀ (D : Nat → Prop) (more : Int32) (o3 o4 : Option Value) (m' : mMem), cct D0 S.1 ≤ cct D S.1 → (¬ more = 0 → cct D0 S.1 < cct D S.1) → mTo (fun k => k = 64 * o + 20) (fun _ _ => False) m m' → (∀ k, k < S.1 → m'.2.2.1 (64 * o + 20) k = bz (D k)) → (∀ k, k < S.1 → C k → D k) → (∀ k, k < S.1 → D k → rEv P T tk pt S C k) → (more = 0 → ∀ j, j < k → ∀ t, t < T → rdyS P tk pt (S.2.1 j) t → D (S.2.2.2.2.2 j t) → D j) → (D k ∨ ∀ t, t < T → rdyS P tk pt (S.2.1 k) t → ¬ D (S.2.2.2.2.2 k t)) → mEs (d - 1) 195 o g195 (10, [some (.ref o), some (.int more), some (.int (nI (k + 1))), o3, o4], [], m') Q := by
            intro D more o3 o4 m' h1 h2 T' hD hCD hDE hcl hk3
            refine ih D more _ _ m' h1 h2 T' hD hCD hDE (fun z j hj t ht hr hd' => ?_)
            by_cases e : j = k
            · subst e
              rcases hk3 with h | h
              · exact h
              · exact absurd hd' (h t ht hr)
            · exact hcl z j (by omega) t ht hr hd'
          refine upto (e := T) (X := fun t => ∀ (D : Nat → Prop) (more : Int32) (o4 : Option Value) (m' : mMem), cct D0 S.1 ≤ cct D S.1 → (¬ more = 0 → cct D0 S.1 < cct D S.1) → mTo (fun k => k = 64 * o + 20) (fun _ _ => False) m m' → (∀ k, k < S.1 → m'.2.2.1 (64 * o + 20) k = bz (D k)) → (∀ k, k < S.1 → C k → D k) → (∀ k, k < S.1 → D k → rEv P T tk pt S C k) → (more = 0 → ∀ j, j < k → ∀ t, t < T → rdyS P tk pt (S.2.1 j) t → D (S.2.2.2.2.2 j t) → D j) → (D k ∨ ∀ u, u < t → rdyS P tk pt (S.2.1 k) u → ¬ D (S.2.2.2.2.2 k u)) → mEs (d - 1) 195 o g195 (20, [some (.ref o), some (.int more), some (.int (nI k)), some (.int (nI t)), o4], [], m') Q) ?_ ?_ 0 (Nat.zero_le _) D more _ m' h1 h2 T' hD hCD hDE hcl (Or.inr (fun u hu => absurd hu (Nat.not_lt_zero _)))
          · intro D more o4 m' h1 h2 T' hD hCD hDE hcl hk3
            refine bk195_20 T'.wt (T'.ob hO) ?_
            rw [T'.nf id, h7, nIle (by omega) (by omega), nIinc]
            refine ⟨fun _ => ?_, fun c => absurd (Nat.le_refl _) c⟩
            rintro v rfl
            exact nxt D more _ _ m' h1 h2 T' hD hCD hDE hcl hk3
          · intro t ht ih2 D more o4 m' h1 h2 T' hD hCD hDE hcl hk3
            refine bk195_20 T'.wt (T'.ob hO) ?_
            rw [T'.nf id, h7, nIle (by omega) (by omega), nI_clamp (by omega), hD k hk', bz_n0]
            rw [nIinc, nIinc, l10, nI_mul, nI_add, nI_clamp (by omega), T'.i (show ¬ 64 * o + 19 = 64 * o + 20 by omega), hX k t ht (Or.inl hk')]
            refine ⟨fun c => by omega, fun _ => ⟨(nIin_iff (by omega)).mpr (by omega), fun cD => ?_, fun cD => ⟨(nIin_iff (by omega)).mpr (by omega), ?_⟩⟩⟩
            · rintro v rfl
              exact nxt D more _ _ m' h1 h2 T' hD hCD hDE hcl (Or.inl cD)
            · have hk4 := hk3.resolve_left cD
              have skip : (rdyS P tk pt (S.2.1 k) t → ¬ D (S.2.2.2.2.2 k t)) → ∀ (o4 : Option Value), mEs (d - 1) 195 o g195 (20, [some (.ref o), some (.int more), some (.int (nI k)), some (.int (nI (t + 1))), o4], [], m') Q := by
                intro hno o4
                refine ih2 D more _ m' h1 h2 T' hD hCD hDE hcl (Or.inr (fun u hu hr => ?_))
                by_cases e : u = t
                · subst e; exact hno hr
                · exact hk4 u (by omega) hr
              by_cases hr : rdyS P tk pt (S.2.1 k) t
              · have hlt := hN k t hk' ht hr
                rw [cif_t hr]
                rintro v rfl
                rw [nI_clamp (by omega), hD _ hlt, bz_0]
                refine ⟨fun c => absurd c (neg1_ne (by omega)), fun _ => ⟨(nIin_iff (by omega)).mpr (by omega), fun cd => ?_, fun cd => ⟨(nIin_iff (by omega)).mpr (by omega), fun m2 em2 => ?_⟩⟩⟩
                · rintro v rfl
                  exact skip (fun _ => cd) _
                · obtain ⟨t2, a20⟩ := sI1 em2 T'.wt
                  have cd' := Classical.not_not.mp cd
                  rintro v rfl
                  have ec := cct_add (D := D) cD S.1 hk'
                  refine ih2 (fun j => D j ∨ j = k) 1 _ m2 (by omega) (fun _ => by omega) (T'.tr t2) (fun j hj => ?_) (fun j hj h => Or.inl (hCD j hj h)) (fun j hj h => ?_) (fun z => absurd z (by decide)) (Or.inl (Or.inr rfl))
                  · rw [a20]
                    by_cases e : j = k
                    · subst e; rw [up_s, bz_t (Or.inr rfl)]
                    · rw [up_n e, hD j hj]
                      exact bz_cg ⟨Or.inl, fun h => h.resolve_right e⟩
                  · rcases h with h | h
                    · exact hDE j hj h
                    · subst h
                      exact rEv_s ht hr (hDE _ hlt cd')
              · rw [cif_f hr]
                rintro v rfl
                refine ⟨fun _ => ?_, fun c => absurd rfl c⟩
                rintro v rfl
                exact skip (fun z => absurd z hr) _
  have hle : cct C S.1 ≤ S.1 := cct_le _
  exact main (S.1 + 1) C 1 _ _ _ m (by omega) (mTo.rf hT) hC (fun _ _ h => h) (fun k _ h => rEv_c h) (fun z => absurd z (by decide))
theorem ev_isDead {k : Nat} (hd : 4 ≤ d) (hT : mWT m) (hS : mS m o P T tk pt fi V) (hR : mRch m o P T tk pt S) (hk : k < S.1) (hQ : Q (some (.int (bz (rDd P T tk pt S k)))) m) : mEv d 194 [.ref o, .int (nI k)] m Q := by
  obtain ⟨hO, hN, hkn, a4, a5, a6, a7, a8, a9, b1, b2, b3, b4⟩ := id hS
  obtain ⟨hok, hr, hnx⟩ := id hR
  have h301 := hok.2.1
  have hk2 := hkn.2.1
  have hbs := bs_small (rdyS P tk pt (S.2.1 k)) hk2
  refine mEv.at (by omega) G194 (Nat.le_of_ble_eq_true rfl) ?_
  refine bk194_0 hT hO ?_
  rw [l10, nI_mul]
  refine ev_canBy (mk := S.2.1 k) (base := 10 * k) (by omega) hT hO hN hkn (hT.arr hO 14 rfl (by decide)) (by omega) (by decide) (fun p hp => hr.2.1 k hk p (by have := hkn.1; omega)) (hok.2.2.2.1 k) ?_
  refine bk194_12 hT hO ?_
  rw [nIeq0 (by omega)]
  refine ⟨fun c => ?_, fun c => ?_⟩
  · rw [bz_f (C := rDd P T tk pt S k) c] at hQ; exact hQ
  · rw [bz_t (C := rDd P T tk pt S k) (Classical.not_not.mp c)] at hQ; exact hQ
theorem ev_rch0 (hd : 4 ≤ d) (hT : mWT m) (hS : mS m o P T tk pt fi V) (h27 : iF m o 27 = 0 ∨ mRch m o P T tk pt (rcZ P T tk pt V.1))
    (hQ : ∀ m', mTo (mgB o) (mg0 o) m m' → iF m' o 0 = 0 → ¬ iF m' o 27 = 0 → mS m' o P T tk pt fi V → mRch m' o P T tk pt (rcZ P T tk pt V.1) → Q none m') : mEv d 190 [.ref o] (mSetF m o 0 (.int 0)) Q := by
  obtain ⟨S1, T1⟩ := hS.th hT
  refine ev_reachM hd T1.wt S1 ?_ ?_
  · rcases h27 with h | h
    · exact Or.inl (by rw [T1.nf (by omega)]; exact h)
    · exact Or.inr (h.to T1 (fun _ _ _ => id) (by omega))
  · intro m' T2 y27 hC
    refine hQ m' ((T1.mono (A' := mgB o) (F' := mg0 o) (fun _ h => h.elim) (fun k f h => ⟨h.1, Or.inl h.2⟩)).tr (T2.mono (A' := mgB o) (F' := mg0 o) (fun k h => by unfold mgA at h; unfold mgB; omega) (fun k f h => ⟨h.1, Or.inr h.2⟩))) (by rw [T2.nf (by unfold mgG; omega)]; exact iF_s) y27 (S1.to T2 (fun i h1 h2 => by unfold mgA; omega) (by unfold mgA; omega) (by unfold mgG; omega) (by unfold mgG; omega) (by unfold mgG; omega) (by unfold mgG; omega)) hC
theorem mg0_th (hT : mWT m) (hS : mS m o P T tk pt fi V) : mTo (mgB o) (mg0 o) m (mSetF m o 0 (.int 0)) := (hS.th hT).2.mono (fun _ h => h.elim) (fun k f h => ⟨h.1, Or.inl h.2⟩)
end MRC2
