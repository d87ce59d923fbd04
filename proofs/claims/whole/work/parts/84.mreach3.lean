/-! The model: what reached(), dead(), alive(), way() answer. -/
def askR (P : Nat) (y z : Int32) : Prop := 0 < P ∧ ((y = -1 ∧ z = 0) ∨ (¬ y = -1 ∧ ¬ y < 0 ∧ (pIx P z ∨ z = 10 ∨ z = 11)))
noncomputable def reachedA (P T : Nat) (tk pt : Nat → Nat → Nat) (S : rcS) (y z : Int32) : Int32 := cif (askR P y z) (cif (S.1 ≤ 300) (cif (y = -1) (nI S.1) (cif (pIx S.1 y) (rchT P T tk pt S y.toNatClampNeg z) (-1))) (-2)) (-1)
noncomputable def deadA (P T : Nat) (tk pt : Nat → Nat → Nat) (S : rcS) (y : Int32) : Int32 := cif (0 < P ∧ pIx 4 y) (cif (S.1 ≤ 300) (cif (y = 0) (nI (cct (rDd P T tk pt S) S.1)) (cif (y = 1) (lsA (rDd P T tk pt S) S.1) (cif (y = 2) (nI (rCm P T tk pt S 10)) (nI (rCm P T tk pt S 11))))) (-2)) (-1)
noncomputable def liveA (P T : Nat) (tk pt : Nat → Nat → Nat) (S : rcS) (t : Nat) : Int32 := if rCm P T tk pt S t = S.1 then 2 else if 0 < rCm P T tk pt S t then 1 else 0
noncomputable def aliveA (P T : Nat) (tk pt : Nat → Nat → Nat) (S : rcS) (y : Int32) : Int32 := cif (pIx T y) (cif (S.1 ≤ 300) (liveA P T tk pt S y.toNatClampNeg) (-2)) (-1)
noncomputable def wayT (S : rcS) (a : Nat) (y : Int32) : Int32 := cif (y = -1) (nI (S.2.2.2.2.1 a)) (cif (∃ j, j < S.2.2.2.2.1 a ∧ y = nI j) (oI S.2.2.2.1 (rcAn S y.toNatClampNeg (S.2.2.2.2.1 a) a)) (-1))
noncomputable def wayA (P : Nat) (S : rcS) (gl : Nat → Nat) (y : Int32) : Int32 := cif (0 < P ∧ -1 ≤ y) (cif (S.1 ≤ 300) (cif (rcTo P S gl = S.1) (-3) (wayT S (rcTo P S gl) y)) (-2)) (-1)
theorem in1011 {z : Int32} : ((10 : Int64) ≤ z.toInt64 ∧ z.toInt64 ≤ 11) ↔ z = 10 ∨ z = 11 := by
  rw [fa_le64, fa_le64, Int32.toInt_toInt64, fa_eq, fa_eq]
  rw [show (10 : Int64).toInt = 10 from rfl, show (11 : Int64).toInt = 11 from rfl, show (10 : Int32).toInt = 10 from rfl, show (11 : Int32).toInt = 11 from rfl]
  omega
theorem in03 {z : Int32} : ((0 : Int64) ≤ z.toInt64 ∧ z.toInt64 ≤ 3) ↔ pIx 4 z := by
  rw [fa_le64, fa_le64, Int32.toInt_toInt64, show (0 : Int64).toInt = 0 from rfl, show (3 : Int64).toInt = 3 from rfl]
  constructor
  · rintro ⟨h1, h2⟩
    refine ⟨z.toInt.toNat, by omega, ?_⟩
    rw [fa_eq, show (nI z.toInt.toNat).toInt = ((z.toInt.toNat : Nat) : Int) from Int32.toInt_ofNat_of_lt (by omega)]
    omega
  · rintro ⟨j, hj, rfl⟩
    rw [show (nI j).toInt = ((j : Nat) : Int) from Int32.toInt_ofNat_of_lt (by omega)]
    omega
section MRC3
variable {d o n P T N r lr : Nat} {tk pt : Nat → Nat → Nat} {fi mk row : Nat → Nat} {h : Nat → Nat → Nat} {V : aV} {S : rcS} {C : Nat → Prop} {m : mMem} {Q : Option Value → mMem → Prop}
theorem h27_th (hT : mWT m) (hS : mS m o P T tk pt fi V) (h27 : iF m o 27 = 0 ∨ mRch m o P T tk pt S) : iF (mSetF m o 0 (.int 0)) o 27 = 0 ∨ mRch (mSetF m o 0 (.int 0)) o P T tk pt S := by
  obtain ⟨S1, T1⟩ := hS.th hT
  rcases h27 with h | h
  · exact Or.inl (by rw [T1.nf (by omega)]; exact h)
  · exact Or.inr (h.to T1 (fun _ _ _ => id) (by omega))
theorem ev_reachedM {y z : Int32} (hd : 5 ≤ d) (hT : mWT m) (hS : mS m o P T tk pt fi V) (h27 : iF m o 27 = 0 ∨ mRch m o P T tk pt (rcZ P T tk pt V.1))
    (hQ : ∀ m', mTo (mgB o) (mg0 o) m m' → iF m' o 0 = 0 → (iF m' o 27 = 0 ∨ mRch m' o P T tk pt (rcZ P T tk pt V.1)) → Q (some (.int (reachedA P T tk pt (rcZ P T tk pt V.1) y z))) m') : mEv d 189 [.ref o, .int y, .int z] m Q := by
  obtain ⟨S1, T1⟩ := hS.th hT
  have h10 := hS.2.2.1.1
  have hno : ¬ askR P y z → Q (some (.int (-1))) (mSetF m o 0 (.int 0)) := by
    intro c
    have q := hQ _ (mg0_th hT hS) iF_s (h27_th hT hS h27)
    unfold reachedA at q
    rw [cif_f c] at q
    exact q
  have yes : askR P y z → ∀ x3 : Int32, mEv (d - 1) 190 [.ref o] (mSetF m o 0 (.int 0)) (fun r m' => mEs (d - 1) 189 o g189 (71, [some (.ref o), some (.int y), some (.int z), some (.int x3)], r.toList ++ [], m') Q) := by
    intro ask x3
    refine ev_rch0 (by omega) hT hS h27 ?_
    intro m' T' y0 y27 S' hC
    have q := hQ m' T' y0 (Or.inr hC)
    unfold reachedA at q
    rw [cif_t ask] at q
    obtain ⟨hok, hr, hnx⟩ := id hC
    generalize rcZ P T tk pt V.1 = S at *
    have h301 := hok.2.1
    refine bk189_71 T'.wt S'.1 ?_
    rw [hr.1, l300, nIle (by omega) (by omega)]
    refine ⟨fun c3 => ?_, fun c3 => ?_⟩
    · rw [cif_t c3] at q
      refine ⟨fun cy => ⟨fun c => absurd cy c, fun _ => ?_⟩, fun cy => ?_⟩
      · rw [cif_t cy] at q; exact q
      · rw [cif_f cy] at q
        obtain ⟨hP, ⟨e, _⟩ | ⟨_, hy, hz⟩⟩ := ask
        · exact absurd e cy
        rcases pk_ix y (n := S.1) (by omega) with g | g | ⟨j, hj, rfl⟩
        · exact absurd g hy
        · rw [cif_f] at q
          · exact ⟨fun c => absurd g (Int32.not_le.mpr c), fun _ => ⟨fun _ => q, fun c => absurd cy c⟩⟩
          · rintro ⟨j, h1, rfl⟩; rw [nIle (by omega) (by omega)] at g; omega
        · rw [cif_t ⟨j, hj, rfl⟩, nI_clamp (by omega)] at q
          refine ⟨fun _ => ?_, fun c => absurd ((nI_ltI (by omega) (by omega)).mpr hj) c⟩
          unfold rchT at q
          rw [nI_clamp (by omega), hr.2.2.2.2 j hj]
          refine ⟨fun c10 => ⟨fun c11 => ?_, fun c11 => ?_⟩, fun c10 => ?_⟩
          · rw [cif_f c10, cif_f c11] at q
            rcases hz with ⟨w, hw, rfl⟩ | e | e
            · rw [nI_clamp (by omega)] at q
              rw [l10, nI_mul, nI_add, nI_clamp (by omega), hr.2.1 j hj w (by omega)]
              exact ⟨(nIin_iff (by omega)).mpr (by omega), q⟩
            · exact absurd e c10
            · exact absurd e c11
          · rw [cif_f c10, cif_t (Classical.not_not.mp c11)] at q
            exact ⟨(nIin_iff (by omega)).mpr (by omega), q⟩
          · rw [cif_t (Classical.not_not.mp c10)] at q
            rw [l10, nI_mul]
            refine ev_canBy (mk := S.2.1 j) (base := 10 * j) (by omega) T'.wt S'.1 S'.2.1 S'.2.2.1 (T'.wt.arr S'.1 14 rfl (by decide)) (by omega) (by decide) (fun p hp => hr.2.1 j hj p (by omega)) (hok.2.2.2.1 j) ?_
            exact bk189_129 T'.wt S'.1 q
    · rw [cif_f c3] at q; exact q
  refine mEv.at (by omega) G189 (Nat.le_of_ble_eq_true rfl) ?_
  refine bk189_0 hT hS.1 ?_
  rintro m1 rfl
  rw [S1.2.2.2.1, bz_0]
  refine ⟨fun cy => ⟨fun cn => ?_, fun cn => ?_⟩, fun cy => ⟨fun cz => ?_, fun cz => ?_⟩⟩
  · have q := hno (fun h => h.2.elim (fun e => cy e.1) (fun e => e.2.1 cn))
    exact ⟨fun _ => q, fun _ => q⟩
  · refine ev_mPl (by omega) T1.wt S1.1 S1.2.1 h10 z ?_
    refine bk189_31 T1.wt S1.1 ?_
    rw [S1.2.2.2.1, bz_0 (C := 0 < P), bz_n0]
    refine ⟨fun cp => ⟨fun c => hno (fun h => c h.1), fun c => yes ⟨Classical.not_not.mp c, Or.inr ⟨cy, cn, Or.inl cp⟩⟩ 1⟩, fun cp => ?_⟩
    refine ev_in (by omega) T1.wt ?_
    rw [bz_cg in1011]
    refine bk189_45 T1.wt S1.1 ?_
    rw [S1.2.2.2.1, bz_0, bz_0]
    refine ⟨fun ci => ?_, fun ci => ⟨fun c => hno (fun h => c h.1), fun c => yes ⟨Classical.not_not.mp c, Or.inr ⟨cy, cn, Or.inr (Classical.not_not.mp ci)⟩⟩ 1⟩⟩
    have q := hno (fun h => h.2.elim (fun e => cy e.1) (fun e => e.2.2.elim (fun z => cp z) ci))
    exact ⟨fun _ => q, fun _ => q⟩
  · have q := hno (fun h => h.2.elim (fun e => cz e.2) (fun e => cy e.1))
    exact ⟨fun _ => q, fun _ => q⟩
  · exact ⟨fun c => hno (fun h => c h.1), fun c => yes ⟨Classical.not_not.mp c, Or.inl ⟨Classical.not_not.mp cy, Classical.not_not.mp cz⟩⟩ 1⟩
theorem tg10 (hk : T ≤ 10) : rTg P T tk pt S 10 = fun k => k = 0 := by
  funext k
  refine propext ⟨fun h => ?_, fun h => Or.inr (Or.inl ⟨rfl, h⟩)⟩
  rcases h with h | h | h
  · omega
  · exact h.2
  · omega
theorem tg11 (hk : T ≤ 10) : rTg P T tk pt S 11 = rDd P T tk pt S := by
  funext k
  refine propext ⟨fun h => ?_, fun h => Or.inr (Or.inr ⟨rfl, bs_zero.mp h⟩)⟩
  rcases h with h | h | h
  · omega
  · omega
  · exact bs_zero.mpr h.2
theorem tgT {t : Nat} (hk : T ≤ 10) (ht : t < T) : rTg P T tk pt S t = fun k => rdyS P tk pt (S.2.1 k) t := by
  funext k
  refine propext ⟨fun h => ?_, fun h => Or.inl ⟨ht, h⟩⟩
  rcases h with h | h | h
  · exact h.2
  · omega
  · omega
theorem ev_deadM {y : Int32} (hd : 6 ≤ d) (hT : mWT m) (hS : mS m o P T tk pt fi V) (h27 : iF m o 27 = 0 ∨ mRch m o P T tk pt (rcZ P T tk pt V.1))
    (hQ : ∀ m', mTo (mgB o) (mg0 o) m m' → iF m' o 0 = 0 → (iF m' o 27 = 0 ∨ mRch m' o P T tk pt (rcZ P T tk pt V.1)) → Q (some (.int (deadA P T tk pt (rcZ P T tk pt V.1) y))) m') : mEv d 193 [.ref o, .int y] m Q := by
  obtain ⟨S1, T1⟩ := hS.th hT
  have h10 := hS.2.2.1.1
  have hk2 := hS.2.2.1.2.1
  unfold deadA at hQ
  have hno : ¬ (0 < P ∧ pIx 4 y) → Q (some (.int (-1))) (mSetF m o 0 (.int 0)) := by
    intro c
    have q := hQ _ (mg0_th hT hS) iF_s (h27_th hT hS h27)
    rw [cif_f c] at q
    exact q
  refine mEv.at (by omega) G193 (Nat.le_of_ble_eq_true rfl) ?_
  refine bk193_0 hT hS.1 ?_
  rintro m1 rfl
  rw [S1.2.2.2.1, bz_0]
  refine ⟨fun c => hno (fun h => c h.1), fun c => ?_⟩
  refine ev_in (by omega) T1.wt ?_
  rw [bz_cg in03]
  refine bk193_21 T1.wt S1.1 ?_
  rw [bz_n0]
  refine ⟨fun c2 => ?_, fun c2 => hno (fun h => c2 h.2)⟩
  refine ev_rch0 (by omega) hT hS h27 ?_
  intro m' T' y0 y27 S' hC
  have hQ' : ∀ m2, mTo (fun k => k = 64 * o + 20) (fun _ _ => False) m' m2 → Q (some (.int (deadA P T tk pt (rcZ P T tk pt V.1) y))) m2 := by
    intro m2 t2
    exact hQ m2 (T'.tr (t2.mono (fun k h => by unfold mgB; omega) (fun _ _ h => h.elim))) (by rw [t2.nf id]; exact y0) (Or.inr (hC.to t2 (fun i h1 h2 => by omega) id))
  unfold deadA at hQ'
  rw [cif_t ⟨Classical.not_not.mp c, c2⟩] at hQ'
  obtain ⟨hok, hr, hnx⟩ := id hC
  generalize rcZ P T tk pt V.1 = S at *
  have h301 := hok.2.1
  refine bk193_30 T'.wt S'.1 ?_
  rw [hr.1, l300, nIle (by omega) (by omega)]
  refine ⟨fun c3 => ?_, fun c3 => ?_⟩
  · rw [cif_t c3] at hQ'
    rintro v1 rfl v2 rfl
    have loop : ∀ u, u ≤ S.1 → ∀ (cnt : Nat) (lst : Int32) (x5 : Option Value) (m2 : mMem), mTo (fun k => k = 64 * o + 20) (fun _ _ => False) m' m2 → cct (rDd P T tk pt S) u + cnt = cct (rDd P T tk pt S) S.1 → ((∃ j, u ≤ j ∧ j < S.1 ∧ rDd P T tk pt S j ∧ (∀ i, u ≤ i → i < j → ¬ rDd P T tk pt S i) ∧ lst = nI j) ∨ ((∀ j, u ≤ j → j < S.1 → ¬ rDd P T tk pt S j) ∧ lst = -3)) → (∀ k, u ≤ k → k < S.1 → m2.2.2.1 (64 * o + 20) k = bz ((y = 2 ∧ k = 0) ∨ (¬ y = 2 ∧ rDd P T tk pt S k))) → mEs (d - 1) 193 o g193 (56, [some (.ref o), some (.int y), some (.int (nI cnt)), some (.int lst), some (.int (nI u - 1)), x5], [], m2) Q := by
      intro u
      induction u with
      | zero =>
        intro _ cnt lst x5 m2 t2 h1 h2 h3
        have h1' : 0 + cnt = cct (rDd P T tk pt S) S.1 := h1
        rw [Nat.zero_add] at h1'
        have q := hQ' m2 t2
        have S2 := S'.to t2 (fun i h1 h2 => by omega) (by omega) id id id id
        have C2 := hC.to t2 (fun i h1 h2 => by omega) id
        refine bk193_56 t2.wt S2.1 ⟨fun _ => ⟨fun c4 => ⟨fun c5 => ?_, fun c5 => ?_⟩, fun c4 => ?_⟩, fun c4 => absurd (by decide) c4⟩
        · refine ev_back (C := fun k => (y = 2 ∧ k = 0) ∨ (¬ y = 2 ∧ rDd P T tk pt S k)) (by omega) t2.wt S2.1 S2.2.1.2.1 hk2 C2 c3 (fun k hk' => h3 k (Nat.zero_le _) hk') ?_
          intro m3 t3
          have q3 := hQ' m3 (t2.tr t3)
          rw [cif_f c4, cif_f c5] at q3
          refine bk193_148 t3.wt (t3.ob S2.1) ?_
          by_cases e2 : y = 2
          · rw [cif_t e2] at q3
            have e : (fun k => (y = 2 ∧ k = 0) ∨ (¬ y = 2 ∧ rDd P T tk pt S k)) = fun k => k = 0 := by
              funext k
              exact propext ⟨fun h => h.elim (fun h => h.2) (fun h => absurd e2 h.1), fun h => Or.inl ⟨e2, h⟩⟩
            rw [e]
            unfold rCm at q3
            rw [tg10 hk2] at q3
            exact q3
          · rw [cif_f e2] at q3
            have e : (fun k => (y = 2 ∧ k = 0) ∨ (¬ y = 2 ∧ rDd P T tk pt S k)) = rDd P T tk pt S := by
              funext k
              exact propext ⟨fun h => h.elim (fun h => absurd h.1 e2) (fun h => h.2), fun h => Or.inr ⟨e2, h⟩⟩
            rw [e]
            unfold rCm at q3
            rw [tg11 hk2] at q3
            exact q3
        · rw [cif_f c4, cif_t (Classical.not_not.mp c5)] at q
          refine bk193_148 t2.wt S2.1 ?_
          rcases h2 with ⟨j, _, e2, e3, e4, e5⟩ | ⟨e1, e2⟩
          · rw [lsA_y e2 e3 (fun i hi => e4 i (Nat.zero_le _) hi)] at q
            rw [e5]; exact q
          · rw [lsA_n (fun j hj => e1 j (Nat.zero_le _) hj)] at q
            rw [e2]; exact q
        · rw [cif_t (Classical.not_not.mp c4)] at q
          refine bk193_148 t2.wt S2.1 ?_
          rw [h1']; exact q
      | succ u ihu =>
        intro hu cnt lst x5 m2 t2 h1 h2 h3
        have S2 := S'.to t2 (fun i h1 h2 => by omega) (by omega) id id id id
        have C2 := hC.to t2 (fun i h1 h2 => by omega) id
        have e1 : nI (u + 1) - 1 = nI u := by rw [nIdec (by omega)]; rfl
        have nxt : ∀ (v : Int32) (C : Prop) (cnt' : Nat) (lst' : Int32), v = bz C → (C ↔ (y = 2 ∧ u = 0) ∨ (¬ y = 2 ∧ rDd P T tk pt S u)) → ((rDd P T tk pt S u ∧ cnt' = cnt + 1 ∧ lst' = nI u) ∨ (¬ rDd P T tk pt S u ∧ cnt' = cnt ∧ lst' = lst)) → ∀ (m3 : mMem), m3 = mSetI m2 (64 * o + 20) (upd (m2.2.2.1 (64 * o + 20)) u v) → ∀ x5 : Option Value, mEs (d - 1) 193 o g193 (56, [some (.ref o), some (.int y), some (.int (nI cnt')), some (.int lst'), some (.int (nI u + (-1))), x5], [], m3) Q := by
          intro v C cnt' lst' hv hCv hc m3 em3 x5
          obtain ⟨t3, a20⟩ := sI1 em3 t2.wt
          rw [show nI u + (-1) = nI u - 1 by rw [Int32.sub_eq_add_neg]]
          refine ihu (by omega) cnt' lst' x5 m3 (t2.tr t3) ?_ ?_ (fun k h4 h5 => ?_)
          · rcases hc with ⟨g1, g2, g3⟩ | ⟨g1, g2, g3⟩
            · rw [cct_t g1] at h1; omega
            · rw [cct_f g1] at h1; omega
          · rcases hc with ⟨g1, g2, g3⟩ | ⟨g1, g2, g3⟩
            · exact Or.inl ⟨u, Nat.le_refl _, by omega, g1, fun i hi1 hi2 => by omega, g3⟩
            · rcases h2 with ⟨j, e1, e2, e3, e4, e5⟩ | ⟨e1, e2⟩
              · refine Or.inl ⟨j, by omega, e2, e3, fun i hi1 hi2 => ?_, by rw [g3, e5]⟩
                by_cases e : i = u
                · subst e; exact g1
                · exact e4 i (by omega) hi2
              · refine Or.inr ⟨fun j hj1 hj2 => ?_, by rw [g3, e2]⟩
                by_cases e : j = u
                · subst e; exact g1
                · exact e1 j (by omega) hj2
          · rw [a20]
            by_cases e : k = u
            · subst e; rw [up_s, hv]; exact bz_cg hCv
            · rw [up_n e]; exact h3 k (by omega) h5
        refine bk193_56 t2.wt S2.1 ?_
        rw [e1]
        refine ⟨fun c4 => absurd c4 (nI_nlt0 (by omega)), fun _ => ?_⟩
        refine ev_isDead (S := S) (by omega) t2.wt S2 C2 (by omega) ?_
        refine bk193_67 t2.wt S2.1 ?_
        rw [bz_0, nI_clamp (by omega), nIeq0 (by omega), nIinc, Int32.add_zero]
        have hin : mIn (nI u) 301 = true := (nIin_iff (by omega)).mpr (by omega)
        by_cases q : rDd P T tk pt S u
        · refine ⟨fun z => absurd q z, fun _ => ?_⟩
          rintro v rfl
          refine ⟨fun z => absurd q z, fun _ => ⟨fun c5 => ⟨hin, (Classical.em (rDd P T tk pt S u)).elim (fun h => Or.inr (bz_t h)) Or.inl, fun m3 em3 => ?_⟩, fun c5 => ⟨fun c6 => ⟨hin, fun m3 em3 => ?_⟩, fun c6 => ⟨hin, fun m3 em3 => ?_⟩⟩⟩⟩
          · rintro v rfl
            exact nxt _ (rDd P T tk pt S u) (cnt + 1) (nI u) rfl ⟨fun h => Or.inr ⟨c5, h⟩, fun h => h.elim (fun h => absurd h.1 c5) (fun h => h.2)⟩ (Or.inl ⟨q, rfl, rfl⟩) m3 em3 _
          · rintro v rfl
            exact nxt 0 False (cnt + 1) (nI u) (bz_f id).symm ⟨False.elim, fun h => h.elim (fun h => c6 h.2) (fun h => c5 h.1)⟩ (Or.inl ⟨q, rfl, rfl⟩) m3 em3 _
          · rintro v rfl
            exact nxt 1 True (cnt + 1) (nI u) (bz_t trivial).symm ⟨fun _ => Or.inl ⟨Classical.not_not.mp c5, Classical.not_not.mp c6⟩, fun _ => trivial⟩ (Or.inl ⟨q, rfl, rfl⟩) m3 em3 _
        · refine ⟨fun _ => ?_, fun z => absurd q z⟩
          rintro v rfl
          refine ⟨fun _ => ⟨fun c5 => ⟨hin, (Classical.em (rDd P T tk pt S u)).elim (fun h => Or.inr (bz_t h)) Or.inl, fun m3 em3 => ?_⟩, fun c5 => ⟨fun c6 => ⟨hin, fun m3 em3 => ?_⟩, fun c6 => ⟨hin, fun m3 em3 => ?_⟩⟩⟩, fun z => absurd q z⟩
          · rintro v rfl
            exact nxt _ (rDd P T tk pt S u) cnt lst rfl ⟨fun h => Or.inr ⟨c5, h⟩, fun h => h.elim (fun h => absurd h.1 c5) (fun h => h.2)⟩ (Or.inr ⟨q, rfl, rfl⟩) m3 em3 _
          · rintro v rfl
            exact nxt 0 False cnt lst (bz_f id).symm ⟨False.elim, fun h => h.elim (fun h => c6 h.2) (fun h => c5 h.1)⟩ (Or.inr ⟨q, rfl, rfl⟩) m3 em3 _
          · rintro v rfl
            exact nxt 1 True cnt lst (bz_t trivial).symm ⟨fun _ => Or.inl ⟨Classical.not_not.mp c5, Classical.not_not.mp c6⟩, fun _ => trivial⟩ (Or.inr ⟨q, rfl, rfl⟩) m3 em3 _
    exact loop S.1 (Nat.le_refl _) 0 (-3) _ m' (mTo.rf T'.wt) rfl (Or.inr ⟨fun j h1 h2 => by omega, rfl⟩) (fun k h1 h2 => by omega)
  · have q := hQ' m' (mTo.rf T'.wt)
    rw [cif_f c3] at q; exact q
theorem ev_aliveM {y : Int32} (hd : 5 ≤ d) (hT : mWT m) (hS : mS m o P T tk pt fi V) (h27 : iF m o 27 = 0 ∨ mRch m o P T tk pt (rcZ P T tk pt V.1))
    (hQ : ∀ m', mTo (mgB o) (mg0 o) m m' → iF m' o 0 = 0 → (iF m' o 27 = 0 ∨ mRch m' o P T tk pt (rcZ P T tk pt V.1)) → Q (some (.int (aliveA P T tk pt (rcZ P T tk pt V.1) y))) m') : mEv d 196 [.ref o, .int y] m Q := by
  obtain ⟨S1, T1⟩ := hS.th hT
  have h10 := hS.2.2.1.1
  have hk2 := hS.2.2.1.2.1
  refine mEv.at (by omega) G196 (Nat.le_of_ble_eq_true rfl) ?_
  refine bk196_0 hT hS.1 ?_
  rintro m1 rfl
  refine ev_mTr (by omega) T1.wt S1.1 S1.2.1 hk2 y ?_
  refine bk196_10 T1.wt S1.1 ?_
  rw [bz_n0]
  refine ⟨fun c2 => ?_, fun c2 => ?_⟩
  · obtain ⟨t, ht, rfl⟩ := c2
    refine ev_rch0 (by omega) hT hS h27 ?_
    intro m' T' y0 y27 S' hC
    have hQ' : ∀ m2, mTo (fun k => k = 64 * o + 20) (fun _ _ => False) m' m2 → Q (some (.int (aliveA P T tk pt (rcZ P T tk pt V.1) (nI t)))) m2 := by
      intro m2 t2
      exact hQ m2 (T'.tr (t2.mono (fun k h => by unfold mgB; omega) (fun _ _ h => h.elim))) (by rw [t2.nf id]; exact y0) (Or.inr (hC.to t2 (fun i h1 h2 => by omega) id))
    unfold aliveA at hQ'
    rw [cif_t ⟨t, ht, rfl⟩, nI_clamp (by omega)] at hQ'
    obtain ⟨hok, hr, hnx⟩ := id hC
    generalize rcZ P T tk pt V.1 = S at *
    have h301 := hok.2.1
    refine bk196_19 T'.wt S'.1 ?_
    rw [hr.1, l300, nIle (by omega) (by omega)]
    refine ⟨fun c3 => ?_, fun c3 => ?_⟩
    · rw [cif_t c3] at hQ'
      obtain ⟨hX, hN⟩ := hnx c3
      refine upto (e := S.1) (X := fun k => ∀ (b : Int32) (m2 : mMem), mTo (fun k => k = 64 * o + 20) (fun _ _ => False) m' m2 → b = bz (∃ j, j < k ∧ rdyS P tk pt (S.2.1 j) t) → (∀ j, j < k → m2.2.2.1 (64 * o + 20) j = bz (rdyS P tk pt (S.2.1 j) t)) → mEs (d - 1) 196 o g196 (36, [some (.ref o), some (.int (nI t)), some (.int b), some (.int (nI k))], [], m2) Q) ?_ ?_ 0 (Nat.zero_le _) 0 m' (mTo.rf T'.wt) (bz_f (fun ⟨j, h, _⟩ => absurd h (Nat.not_lt_zero _))).symm (fun j hj => absurd hj (Nat.not_lt_zero _))
      · intro b m2 t2 hb hD
        have S2 := S'.to t2 (fun i h1 h2 => by omega) (by omega) id id id id
        have C2 := hC.to t2 (fun i h1 h2 => by omega) id
        refine bk196_36 t2.wt S2.1 ?_
        rw [C2.2.1.1, nIle (by omega) (by omega)]
        refine ⟨fun _ => ?_, fun c => absurd (Nat.le_refl _) c⟩
        refine ev_back (C := fun k => rdyS P tk pt (S.2.1 k) t) (by omega) t2.wt S2.1 S2.2.1.2.1 hk2 C2 c3 hD ?_
        intro m3 t3
        have q3 := hQ' m3 (t2.tr t3)
        have hle : rCm P T tk pt S t ≤ S.1 := cct_le _
        refine bk196_99 t3.wt (t3.ob S2.1) ?_
        have e : cct (fun k => rEv P T tk pt S (fun k => rdyS P tk pt (S.2.1 k) t) k) S.1 = rCm P T tk pt S t := by unfold rCm; rw [tgT hk2 ht]
        rw [e, t3.nf id, C2.2.1.1, nIeq (by omega) (by omega), hb, bz_0]
        unfold liveA at q3
        refine ⟨fun c4 => ⟨fun c5 => ?_, fun c5 => ?_⟩, fun c4 => ?_⟩
        · rw [if_neg c4, if_neg] at q3
          · exact q3
          · intro z
            rw [← e] at z
            obtain ⟨k, hk', hz⟩ := cct_ex z
            exact c5 (rEv_ind (X := fun _ => ∃ j, j < S.1 ∧ rdyS P tk pt (S.2.1 j) t) hN (fun k hk' h => ⟨k, hk', h⟩) (fun _ _ _ _ _ h => h) k hk' hz)
        · rw [if_neg c4, if_pos] at q3
          · exact q3
          · obtain ⟨j, hj, hz⟩ := Classical.not_not.mp c5
            rw [← e]
            exact cct_pos (C := fun k => rEv P T tk pt S (fun k => rdyS P tk pt (S.2.1 k) t) k) hj (rEv_c hz)
        · rw [if_pos (Classical.not_not.mp c4)] at q3; exact q3
      · intro k hk' ih b m2 t2 hb hD
        have S2 := S'.to t2 (fun i h1 h2 => by omega) (by omega) id id id id
        have C2 := hC.to t2 (fun i h1 h2 => by omega) id
        have hin : mIn (nI k) 301 = true := (nIin_iff (by omega)).mpr (by omega)
        have nxt : ∀ (v b' : Int32) (C : Prop), v = bz C → (C ↔ rdyS P tk pt (S.2.1 k) t) → b' = bz (∃ j, j < k + 1 ∧ rdyS P tk pt (S.2.1 j) t) → ∀ m3, m3 = mSetI m2 (64 * o + 20) (upd (m2.2.2.1 (64 * o + 20)) k v) → mEs (d - 1) 196 o g196 (36, [some (.ref o), some (.int (nI t)), some (.int b'), some (.int (nI (k + 1)))], [], m3) Q := by
          intro v b' C hv hCv hb' m3 em3
          obtain ⟨t3, a20⟩ := sI1 em3 t2.wt
          refine ih b' m3 (t2.tr t3) hb' (fun j hj => ?_)
          rw [a20]
          by_cases e : j = k
          · subst e; rw [up_s, hv]; exact bz_cg hCv
          · rw [up_n e]; exact hD j (by omega)
        have some1 : rdyS P tk pt (S.2.1 k) t → (1 : Int32) = bz (∃ j, j < k + 1 ∧ rdyS P tk pt (S.2.1 j) t) := fun h => (bz_t ⟨k, Nat.lt_succ_self _, h⟩).symm
        have some0 : ¬ rdyS P tk pt (S.2.1 k) t → ∀ b' : Int32, b' = b → b' = bz (∃ j, j < k + 1 ∧ rdyS P tk pt (S.2.1 j) t) := by
          intro h b' e
          rw [e, hb]
          refine bz_cg ⟨fun ⟨j, h1, h2⟩ => ⟨j, by omega, h2⟩, fun ⟨j, h1, h2⟩ => ?_⟩
          by_cases e : j = k
          · subst e; exact absurd h2 h
          · exact ⟨j, by omega, h2⟩
        refine bk196_36 t2.wt S2.1 ?_
        rw [C2.2.1.1, nIle (by omega) (by omega), nIinc, l10, nI_mul, nI_add, nI_clamp (by omega), nI_clamp (by omega), t2.i (show ¬ 64 * o + 19 = 64 * o + 20 by omega), hX k t ht (Or.inl hk')]
        refine ⟨fun c => by omega, fun _ => ⟨(nIin_iff (by omega)).mpr (by omega), ?_⟩⟩
        by_cases hr' : rdyS P tk pt (S.2.1 k) t
        · have hlt := hN k t hk' ht hr'
          rw [cif_t hr']
          refine ⟨fun c => absurd c (neg1_ne (by omega)), fun _ => ⟨hin, fun m3 em3 => ⟨fun cb => ?_, fun cb => ⟨hin, fun cz => ?_, fun cz => ?_⟩⟩⟩⟩
          · rintro v rfl
            exact nxt 1 1 True (bz_t trivial).symm ⟨fun _ => hr', fun _ => trivial⟩ (some1 hr') m3 em3
          · rw [em3, rdI_same, up_s] at cz
            exact absurd cz (by decide)
          · rintro v rfl
            exact nxt 1 1 True (bz_t trivial).symm ⟨fun _ => hr', fun _ => trivial⟩ (some1 hr') m3 em3
        · rw [cif_f hr']
          refine ⟨fun _ => ⟨hin, fun m3 em3 => ⟨fun cb => ?_, fun cb => ⟨hin, fun cz => ?_, fun cz => ?_⟩⟩⟩, fun c => absurd rfl c⟩
          · rintro v rfl
            refine nxt 0 1 False (bz_f id).symm ⟨False.elim, fun h => hr' h⟩ (some0 hr' 1 ?_) m3 em3
            rw [hb, bz_n0] at cb
            rw [hb, bz_t cb]
          · rintro v rfl
            exact nxt 0 0 False (bz_f id).symm ⟨False.elim, fun h => hr' h⟩ (some0 hr' 0 (Classical.not_not.mp cb).symm) m3 em3
          · rw [em3, rdI_same, up_s] at cz
            exact absurd rfl cz
    · have q := hQ' m' (mTo.rf T'.wt)
      rw [cif_f c3] at q; exact q
  · have q := hQ _ (mg0_th hT hS) iF_s (h27_th hT hS h27)
    unfold aliveA at q
    rw [cif_f (C := pIx T y) c2] at q
    exact q
theorem ev_goalAt (hd : 1 ≤ d) (hT : mWT m) (hS : mS m o P T tk pt fi V) (hR : mRch m o P T tk pt S) (h300 : S.1 ≤ 300) (hQ : Q (some (.int (if rcTo P S V.2.1 = S.1 then -1 else nI (rcTo P S V.2.1)))) m) : mEv d 198 [.ref o] m Q := by
  obtain ⟨hO, hN, hk, a4, a5, a6, a7, a8, a9, b1, b2, b3, b4⟩ := id hS
  obtain ⟨hok, hr, hnx⟩ := id hR
  have hP := hk.1
  have h6 := hN.1
  have h33 := hr.1
  refine mEv.at (by omega) G198 (Nat.le_of_ble_eq_true rfl) ?_
  refine bk198_0 hT hO ?_
  refine upto (e := S.1) (X := fun j => ∀ (o2 o3 : Option Value), (∀ q, q < j → ¬ rSame P (S.2.1 q) V.2.1) → mEs (d - 1) 198 o g198 (2, [some (.ref o), some (.int (nI j)), o2, o3], [], m) Q) ?_ ?_ 0 (Nat.zero_le _) _ _ (fun q hq => absurd hq (Nat.not_lt_zero _))
  · intro o2 o3 hq
    refine bk198_2 hT hO ?_
    rw [h33, nIle (by omega) (by omega)]
    rw [if_pos (rcTo_no hq)] at hQ
    exact ⟨fun _ => hQ, fun c => absurd (Nat.le_refl _) c⟩
  · intro j hj ih o2 o3 hq
    refine bk198_2 hT hO ?_
    rw [h33, nIle (by omega) (by omega)]
    refine ⟨fun c => by omega, fun _ => ?_⟩
    refine upto (e := P) (X := fun p => ∀ b : Int32, b = bz (∀ q, q < p → S.2.1 j q = V.2.1 q) → mEs (d - 1) 198 o g198 (14, [some (.ref o), some (.int (nI j)), some (.int b), some (.int (nI p))], [], m) Q) ?_ ?_ 0 (Nat.zero_le _) _ (bz_t (fun q hq => absurd hq (Nat.not_lt_zero _))).symm
    · intro b hb
      refine bk198_14 hT hO ?_
      rw [h6, nIle (by omega) (by omega), hb, bz_0, nIinc]
      refine ⟨fun _ => ⟨fun cb => ?_, fun cb => ?_⟩, fun c => absurd (Nat.le_refl _) c⟩
      · rintro v rfl
        refine ih _ _ (fun q hq' => ?_)
        by_cases e : q = j
        · subst e; exact cb
        · exact hq q (by omega)
      · rw [rcTo_eq hok hj (Classical.not_not.mp cb), if_neg (by omega)] at hQ
        exact hQ
    · intro p hp ih2 b hb
      have a1 := hok.2.2.2.1 j p
      have a2 := a9 p
      refine bk198_14 hT hO ?_
      simp (disch := omega) only [forall_eq, l2, l3, l4, l9, l10, l11, l12, l20, l30, l80, l90, l99, l100, l110, l200, l240, l252, l300, l1024, l1M, nI_mul, nIle, nI_ltI, nIeq, nIx10, n10x, nI_add, nI_clamp, nIin_iff, nIinc, nIlt0, nIeq0, nIle0, nIle1, n1lt, n0lt, nIeq1, bz_0, Classical.not_not, h6, hr.2.1 j hj p (by omega), a8 p (by omega)]
      refine ⟨fun c => by omega, fun _ => ⟨fun cb => ih2 0 ?_, fun cb => ⟨by omega, by omega, fun c2 => ih2 0 ?_, fun c2 => ih2 1 ?_⟩⟩⟩
      · rw [hb, bz_0] at cb
        exact (bz_f (fun z => cb (fun q hq => z q (by omega)))).symm
      · exact (bz_f (fun z => c2 (z p (Nat.lt_succ_self _)))).symm
      · rw [hb, bz_n0] at cb
        refine (bz_t (fun q hq => ?_)).symm
        by_cases e : q = p
        · subst e; exact c2
        · exact cb q (by omega)
theorem ev_wayM {y : Int32} (hd : 5 ≤ d) (hT : mWT m) (hS : mS m o P T tk pt fi V) (h27 : iF m o 27 = 0 ∨ mRch m o P T tk pt (rcZ P T tk pt V.1))
    (hQ : ∀ m', mTo (mgB o) (mg0 o) m m' → iF m' o 0 = 0 → (iF m' o 27 = 0 ∨ mRch m' o P T tk pt (rcZ P T tk pt V.1)) → Q (some (.int (wayA P (rcZ P T tk pt V.1) V.2.1 y))) m') : mEv d 197 [.ref o, .int y] m Q := by
  obtain ⟨S1, T1⟩ := hS.th hT
  have hno : ¬ (0 < P ∧ -1 ≤ y) → Q (some (.int (-1))) (mSetF m o 0 (.int 0)) := by
    intro c
    have q := hQ _ (mg0_th hT hS) iF_s (h27_th hT hS h27)
    unfold wayA at q
    rw [cif_f c] at q
    exact q
  refine mEv.at (by omega) G197 (Nat.le_of_ble_eq_true rfl) ?_
  refine bk197_0 hT hS.1 ?_
  rintro m1 rfl
  rw [S1.2.2.2.1, bz_0]
  refine ⟨fun c => hno (fun h => c h.1), fun c => ⟨fun c2 => ?_, fun c2 => hno (fun h => c2 h.2)⟩⟩
  refine ev_rch0 (by omega) hT hS h27 ?_
  intro m' T' y0 y27 S' hC
  have q := hQ m' T' y0 (Or.inr hC)
  unfold wayA at q
  rw [cif_t ⟨Classical.not_not.mp c, c2⟩] at q
  obtain ⟨hok, hr, hnx⟩ := id hC
  generalize rcZ P T tk pt V.1 = S at *
  have h301 := hok.2.1
  refine bk197_23 T'.wt S'.1 ?_
  rw [hr.1, l300, nIle (by omega) (by omega)]
  refine ⟨fun c3 => ?_, fun c3 => ?_⟩
  · rw [cif_t c3] at q
    refine ev_goalAt (S := S) (by omega) T'.wt S' hC c3 ?_
    refine bk197_40 T'.wt S'.1 ?_
    by_cases e : rcTo P S V.2.1 = S.1
    · rw [cif_t e] at q
      rw [if_pos e]
      exact ⟨fun c => absurd rfl c, fun _ => q⟩
    · rw [cif_f e] at q
      rw [if_neg e]
      have hlt : rcTo P S V.2.1 < S.1 := by have := rcTo_le (P := P) (S := S) (row := V.2.1); omega
      generalize rcTo P S V.2.1 = a at *
      have hfa := hok.2.2.2.2.2.2.2 a hlt
      refine ⟨fun _ => ?_, fun c => absurd (neg1_ne (show a < 2 ^ 31 by omega)) c⟩
      unfold wayT at q
      rw [nI_clamp (by omega), hr.2.2.2.2 a hlt]
      refine ⟨fun cy => ⟨fun c => absurd cy c, fun _ => ⟨(nIin_iff (by omega)).mpr (by omega), ?_⟩⟩, fun cy => ⟨(nIin_iff (by omega)).mpr (by omega), ?_⟩⟩
      · rw [cif_t cy] at q; exact q
      · rw [cif_f cy] at q
        have hy0 : ¬ y < 0 := by
          intro z
          rw [fa_lt] at z
          rw [fa_le] at c2
          rw [fa_eq] at cy
          have e1 : (-1 : Int32).toInt = -1 := rfl
          have e0 : (0 : Int32).toInt = 0 := rfl
          omega
        rcases pk_ix y (n := S.2.2.2.2.1 a) (by omega) with g | g | ⟨j, hj, rfl⟩
        · exact absurd g hy0
        · rw [cif_f] at q
          · exact ⟨fun c => absurd g (Int32.not_le.mpr c), fun _ => ⟨fun _ => q, fun c => absurd cy c⟩⟩
          · rintro ⟨j, h1, rfl⟩; rw [nIle (by omega) (by omega)] at g; omega
        · rw [cif_t ⟨j, hj, rfl⟩, nI_clamp (by omega)] at q
          refine ⟨fun _ => ?_, fun c => absurd ((nI_ltI (by omega) (by omega)).mpr hj) c⟩
          have go : ∀ f b, b < S.1 → S.2.2.2.2.1 b ≤ f + (j + 1) → rcAn S j f b = rcAn S j (S.2.2.2.2.1 a) a → mEs (d - 1) 197 o g197 (80, [some (.ref o), some (.int (nI j)), some (.int (nI b))], [], m') Q := by
            intro f
            induction f with
            | zero =>
              intro b hb hf e
              have e' : b = rcAn S j (S.2.2.2.2.1 a) a := e
              have hfb := hok.2.2.2.2.2.2.2 b hb
              refine bk197_80 T'.wt S'.1 ?_
              rw [nI_clamp (by omega), hr.2.2.2.2 b hb, nIinc, nIle (by omega) (by omega), hr.2.2.2.1 b hb]
              refine ⟨(nIin_iff (by omega)).mpr (by omega), fun _ => ⟨(nIin_iff (by omega)).mpr (by omega), ?_⟩, fun c => by omega⟩
              rw [e']; exact q
            | succ f ih =>
              intro b hb hf e
              have hfb := hok.2.2.2.2.2.2.2 b hb
              refine bk197_80 T'.wt S'.1 ?_
              rw [nI_clamp (by omega), hr.2.2.2.2 b hb, nIinc, nIle (by omega) (by omega), hr.2.2.2.1 b hb, hr.2.2.1 b hb]
              refine ⟨(nIin_iff (by omega)).mpr (by omega), fun c2 => ⟨(nIin_iff (by omega)).mpr (by omega), ?_⟩, fun c2 => ⟨(nIin_iff (by omega)).mpr (by omega), ?_⟩⟩
              · have e' : b = rcAn S j (S.2.2.2.2.1 a) a := by
                  rw [← e]
                  show b = if S.2.2.2.2.1 b ≤ j + 1 then b else _
                  rw [if_pos c2]
                rw [e']; exact q
              · have hb0 : 0 < b := by
                  rcases Nat.eq_zero_or_pos b with z | z
                  · rw [z, hok.2.2.2.2.2.2.1] at c2; omega
                  · exact z
                obtain ⟨o1, o2⟩ := hok.2.2.1 b hb0 hb
                rw [oI_n (by omega)]
                rintro v rfl
                refine ih (S.2.2.1 b) (by omega) (by omega) ?_
                rw [← e]
                show _ = if S.2.2.2.2.1 b ≤ j + 1 then b else _
                rw [if_neg c2]
          exact go _ a hlt (by omega) rfl
  · rw [cif_f c3] at q; exact q
end MRC3
