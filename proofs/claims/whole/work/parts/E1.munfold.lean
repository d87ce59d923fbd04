/-! The model's unfolding: the run. -/
def ufA (o k : Nat) : Prop := 64 * o + 28 ≤ k ∧ k ≤ 64 * o + 41
def ufF (o k f : Nat) : Prop := k = o ∧ (f = 45 ∨ f = 46 ∨ f = 47 ∨ f = 55 ∨ f = 60 ∨ f = 63 ∨ f = 64)
def mUnf (m : mMem) (o P T : Nat) (tk pt : Nat → Nat → Nat) (mk : Nat → Nat) : Prop := (iF m o 46 = 1 ∧ uBad P T tk pt mk) ∨ (iF m o 46 = 0 ∧ ¬ uBad P T tk pt mk ∧ uGd P T tk (uZ P T tk pt mk) ∧ meR P tk pt mk m o (uZ P T tk pt mk) ∧ mcR (tnS P tk) m o (uZ P T tk pt mk))
section MUNB
variable {P T d o : Nat} {tk pt : Nat → Nat → Nat} {fi mk : Nat → Nat} {U : uS} {V : aV} {m : mMem} {Q : Option Value → mMem → Prop}
theorem kSz_none : kSz 1073741824 = 32 := rfl
/-- events come as long as one can -/
theorem ev_ufMain (hd : 5 ≤ d) (hS : mS m o P T tk pt fi V) (hg : ¬ uTg P T tk V.1)
    (hQ : ∀ m', mTo (ufA o) (ufF o) m m' → ¬ iF m' o 45 = 0 → mUnf m' o P T tk pt V.1 → Q none m') :
    ∀ n m1 U (x2 : Option Value), n + uE U = 30 → mTo (ufA o) (ufF o) m m1 → ¬ iF m1 o 45 = 0 → uGd P T tk U → uRe P T tk pt V.1 U → iF m1 o 46 = 0 → meR P tk pt V.1 m1 o U → mcR (tnS P tk) m1 o U → mEs d 224 o g224 (135, [some (.ref o), some (.int 1), x2], [], m1) Q := by
  have hk := hS.2.2.1
  have hT10 := hk.2.1
  have hO := hS.1
  have hn9 : ∀ t, t < T → tnS P tk t ≤ 3 := fun t ht => Nat.le_of_not_lt fun q => hg (Or.inr ⟨t, ht, q⟩)
  have frS : ∀ {m1}, mTo (ufA o) (ufF o) m m1 → mS m1 o P T tk pt fi V := fun T1 => hS.to T1 (fun i h1 h2 z => by unfold ufA at z; omega) (fun z => by unfold ufA at z; omega) (fun z => by unfold ufF at z; omega) (fun z => by unfold ufF at z; omega) (fun z => by unfold ufF at z; omega) (fun z => by unfold ufF at z; omega)
  intro n
  induction n with
  | zero =>
    intro m1 U x2 hn T1 h45 G R h46 E C
    have hE30 : uE U = 30 := by omega
    refine bk224_135 T1.wt (T1.ob hO) ?_
    rw [h46]
    refine ⟨fun z => absurd z one0, fun _ => ⟨fun z => absurd rfl z, fun _ => ?_⟩⟩
    rintro m2 rfl m3 rfl
    have T3 : mTo (ufA o) (ufF o) m (mSetF (mSetF m1 o 64 (.int 32)) o 63 (.int (-1))) := (T1.sF hO ⟨rfl, by omega⟩ (by decide)).sF hO ⟨rfl, by omega⟩ (by decide)
    generalize hm3 : mSetF (mSetF m1 o 64 (.int 32)) o 63 (.int (-1)) = m3 at T3
    have z64 : iF m3 o 64 = nI 32 := by rw [← hm3, iF_nf (by decide), iF_s]; rfl
    have z63 : iF m3 o 63 = -1 := by rw [← hm3, iF_s]
    have ff : ∀ f, f ≠ 63 → f ≠ 64 → iF m3 o f = iF m1 o f := fun f h1 h2 => by rw [← hm3, iF_nf h1, iF_nf h2]
    have fi3 : ∀ k, m3.2.2.1 k = m1.2.2.1 k := fun k => by rw [← hm3]; rfl
    have E3 : meR P tk pt V.1 m3 o U := by
      unfold meR at E ⊢
      rw [ff _ (by decide) (by decide), fi3, fi3, fi3, fi3, fi3, fi3, fi3]
      exact E
    have C3 : mcR (tnS P tk) m3 o U := by
      unfold mcR at C ⊢
      rw [ff _ (by decide) (by decide), fi3, fi3, fi3]
      exact C
    have y45 : ¬ iF m3 o 45 = 0 := by rw [ff _ (by decide) (by decide)]; exact h45
    clear hm3 ff fi3
    have loop : ∀ r t m4 B, r + t = T → mTo (ufA o) (ufF o) m m4 → ¬ iF m4 o 45 = 0 → meR P tk pt V.1 m4 o U → mcR (tnS P tk) m4 o U → bsR P tk m4 o B → gdB P T tk pt V.1 U t B → (∀ K, uCd P T tk pt V.1 U K → kTr K < t → ¬ uThK P tk U K → B ≤ K) → mEs d 224 o g224 (159, [some (.ref o), some (.int 1), some (.int (nI t))], [], m4) Q := by
      intro r
      induction r with
      | zero =>
        intro t m4 B ht T4 y45 E4 C4 B4 g4 all
        obtain rfl : t = T := by omega
        have bl : B ≤ 1073741824 := by rcases g4 with e | ⟨e, _⟩ <;> omega
        have nx : uNx P t tk pt V.1 U = B := lsN_eq bl (fun h => by
          rcases g4 with e | ⟨_, e2, e3, _⟩
          · omega
          · exact ⟨e2, e3⟩) (fun j hj hc => by have := all j hc.1 hc.1.1 hc.2; omega)
        have hS4 := frS T4
        refine bk224_159 T4.wt (T4.ob hO) ?_
        rw [hS4.2.1.2.1]
        refine ⟨fun _ => ⟨fun q => ?_, fun q => ?_⟩, fun z => absurd ((nIle (by omega) (by omega)).mpr (Nat.le_refl _)) z⟩
        · rintro m5 rfl
          have eB : B = 1073741824 := by
            refine Classical.byContradiction fun w => ?_
            have lt : B < 1073741824 := by omega
            have hkT : kTr B < 16 := by unfold kTr; omega
            rw [(B4.2.2 lt).1] at q
            exact neg1_ne (show kTr B < 2 ^ 31 by omega) q
          have eZ : uZ P t tk pt V.1 = U := R.z (Or.inr (Or.inr (by rw [nx, eB])))
          have T5 : mTo (ufA o) (ufF o) m (mSetF m4 o 46 (.int 0)) := T4.sF hO ⟨rfl, by omega⟩ (by decide)
          refine bk224_135 T5.wt (T5.ob hO) ⟨fun _ => ?_, fun z => absurd rfl z⟩
          refine hQ _ T5 (by rw [iF_nf (by decide)]; exact y45) (Or.inr ⟨iF_s, ?_, ?_⟩)
          · rintro (z | z)
            · exact hg z
            · unfold uGr at z
              rw [eZ] at z
              have := G.2.2.1
              omega
          · rw [eZ]
            refine ⟨G, ?_, ?_⟩
            · exact E4.to ((mTo.rf (A := fun _ => False) (F := fun k f => k = o ∧ f = 46) T4.wt).sF (T4.ob hO) ⟨rfl, rfl⟩ (by decide)) (fun _ _ _ z => z) (by omega)
            · exact C4.to ((mTo.rf (A := fun _ => False) (F := fun k f => k = o ∧ f = 46) T4.wt).sF (T4.ob hO) ⟨rfl, rfl⟩ (by decide)) (fun _ _ _ z => z) (by omega)
        · have lt : B < 1073741824 := by
            refine Nat.lt_of_not_le fun w => q (B4.2.1 (by omega))
          rw [E4.1, hE30]
          refine ⟨fun z => absurd rfl z, fun _ => ?_⟩
          rintro m5 rfl
          have T5 : mTo (ufA o) (ufF o) m (mSetF m4 o 46 (.int 1)) := T4.sF hO ⟨rfl, by omega⟩ (by decide)
          rw [iF_s]
          refine ⟨fun _ => ?_, fun z => absurd one0 z⟩
          refine bk224_135 T5.wt (T5.ob hO) ?_
          rw [iF_s]
          refine ⟨fun z => absurd z one0, fun _ => ⟨fun _ => ?_, fun z => absurd one0 z⟩⟩
          refine hQ _ T5 (by rw [iF_nf (by decide)]; exact y45) (Or.inl ⟨iF_s, Or.inr (Or.inr ?_)⟩)
          exact R.gr G.2.2.1 hE30 (by rw [nx]; exact lt)
      | succ r ih =>
        intro t m4 B ht T4 y45 E4 C4 B4 g4 all
        have hS4 := frS T4
        refine bk224_159 T4.wt (T4.ob hO) ?_
        rw [hS4.2.1.2.1, nIle (by omega) (by omega)]
        refine ⟨fun z => by omega, fun _ => ?_⟩
        refine ev_choose (by omega) T4.wt (T4.ob hO) hS4.2.1 hk G E4 C4 (by omega) (hn9 t (by omega)) B4 g4 ?_
        intro m5 B5 t5 R5 g5 l5 all5
        have T5 : mTo (ufA o) (ufF o) m m5 := T4.tr (t5.mono (fun _ z => by unfold csA at z; unfold ufA; omega) (fun k f z => by unfold csF at z; unfold ufF; omega))
        refine bk224_172 T5.wt (T5.ob hO) ?_
        rintro v rfl
        rw [nIinc]
        refine ih (t + 1) m5 B5 (by omega) T5 (by rw [t5.nf (fun z => by unfold csF at z; omega)]; exact y45) (E4.to t5 (fun i _ _ z => by unfold csA at z; omega) (fun z => by unfold csF at z; omega)) (C4.to t5 (fun i _ _ z => by unfold csA at z; omega) (fun z => by unfold csF at z; omega)) R5 (g5.up (by omega)) (fun K k1 k2 k3 => ?_)
        by_cases w : kTr K = t
        · exact all5 K k1 w k3
        · have := all K k1 (by omega) k3
          omega
    exact loop T 0 m3 1073741824 (by omega) T3 y45 E3 C3 ⟨by rw [z64, kSz_none], fun _ => z63, fun z => absurd z (Nat.lt_irrefl _)⟩ (Or.inl rfl) (fun K _ z => absurd z (Nat.not_lt_zero _))
  | succ n ihn =>
    intro m1 U x2 hn T1 h45 G R h46 E C
    have hE30 : uE U < 30 := by omega
    refine bk224_135 T1.wt (T1.ob hO) ?_
    rw [h46]
    refine ⟨fun z => absurd z one0, fun _ => ⟨fun z => absurd rfl z, fun _ => ?_⟩⟩
    rintro m2 rfl m3 rfl
    have T3 : mTo (ufA o) (ufF o) m (mSetF (mSetF m1 o 64 (.int 32)) o 63 (.int (-1))) := (T1.sF hO ⟨rfl, by omega⟩ (by decide)).sF hO ⟨rfl, by omega⟩ (by decide)
    generalize hm3 : mSetF (mSetF m1 o 64 (.int 32)) o 63 (.int (-1)) = m3 at T3
    have z64 : iF m3 o 64 = nI 32 := by rw [← hm3, iF_nf (by decide), iF_s]; rfl
    have z63 : iF m3 o 63 = -1 := by rw [← hm3, iF_s]
    have ff : ∀ f, f ≠ 63 → f ≠ 64 → iF m3 o f = iF m1 o f := fun f h1 h2 => by rw [← hm3, iF_nf h1, iF_nf h2]
    have fi3 : ∀ k, m3.2.2.1 k = m1.2.2.1 k := fun k => by rw [← hm3]; rfl
    have E3 : meR P tk pt V.1 m3 o U := by
      unfold meR at E ⊢
      rw [ff _ (by decide) (by decide), fi3, fi3, fi3, fi3, fi3, fi3, fi3]
      exact E
    have C3 : mcR (tnS P tk) m3 o U := by
      unfold mcR at C ⊢
      rw [ff _ (by decide) (by decide), fi3, fi3, fi3]
      exact C
    have y45 : ¬ iF m3 o 45 = 0 := by rw [ff _ (by decide) (by decide)]; exact h45
    clear hm3 ff fi3
    have loop : ∀ r t m4 B, r + t = T → mTo (ufA o) (ufF o) m m4 → ¬ iF m4 o 45 = 0 → meR P tk pt V.1 m4 o U → mcR (tnS P tk) m4 o U → bsR P tk m4 o B → gdB P T tk pt V.1 U t B → (∀ K, uCd P T tk pt V.1 U K → kTr K < t → ¬ uThK P tk U K → B ≤ K) → mEs d 224 o g224 (159, [some (.ref o), some (.int 1), some (.int (nI t))], [], m4) Q := by
      intro r
      induction r with
      | zero =>
        intro t m4 B ht T4 y45 E4 C4 B4 g4 all
        obtain rfl : t = T := by omega
        have bl : B ≤ 1073741824 := by rcases g4 with e | ⟨e, _⟩ <;> omega
        have nx : uNx P t tk pt V.1 U = B := lsN_eq bl (fun h => by
          rcases g4 with e | ⟨_, e2, e3, _⟩
          · omega
          · exact ⟨e2, e3⟩) (fun j hj hc => by have := all j hc.1 hc.1.1 hc.2; omega)
        have hS4 := frS T4
        refine bk224_159 T4.wt (T4.ob hO) ?_
        rw [hS4.2.1.2.1]
        refine ⟨fun _ => ⟨fun q => ?_, fun q => ?_⟩, fun z => absurd ((nIle (by omega) (by omega)).mpr (Nat.le_refl _)) z⟩
        · rintro m5 rfl
          have eB : B = 1073741824 := by
            refine Classical.byContradiction fun w => ?_
            have lt : B < 1073741824 := by omega
            have hkT : kTr B < 16 := by unfold kTr; omega
            rw [(B4.2.2 lt).1] at q
            exact neg1_ne (show kTr B < 2 ^ 31 by omega) q
          have eZ : uZ P t tk pt V.1 = U := R.z (Or.inr (Or.inr (by rw [nx, eB])))
          have T5 : mTo (ufA o) (ufF o) m (mSetF m4 o 46 (.int 0)) := T4.sF hO ⟨rfl, by omega⟩ (by decide)
          refine bk224_135 T5.wt (T5.ob hO) ⟨fun _ => ?_, fun z => absurd rfl z⟩
          refine hQ _ T5 (by rw [iF_nf (by decide)]; exact y45) (Or.inr ⟨iF_s, ?_, ?_⟩)
          · rintro (z | z)
            · exact hg z
            · unfold uGr at z
              rw [eZ] at z
              have := G.2.2.1
              omega
          · rw [eZ]
            refine ⟨G, ?_, ?_⟩
            · exact E4.to ((mTo.rf (A := fun _ => False) (F := fun k f => k = o ∧ f = 46) T4.wt).sF (T4.ob hO) ⟨rfl, rfl⟩ (by decide)) (fun _ _ _ z => z) (by omega)
            · exact C4.to ((mTo.rf (A := fun _ => False) (F := fun k f => k = o ∧ f = 46) T4.wt).sF (T4.ob hO) ⟨rfl, rfl⟩ (by decide)) (fun _ _ _ z => z) (by omega)
        · have lt : B < 1073741824 := by
            refine Nat.lt_of_not_le fun w => q (B4.2.1 (by omega))
          obtain ⟨_, cB, nB, _⟩ : B < 1073741824 ∧ uCd P t tk pt V.1 U B ∧ ¬ uThK P tk U B ∧ kTr B ≤ t := by
            rcases g4 with e | e
            · omega
            · exact e
          rw [E4.1, l30, nIeq (by omega) (by omega)]
          refine ⟨fun _ => ?_, fun z => absurd (show ¬ uE U = 30 by omega) z⟩
          rintro m5 rfl
          have T5 : mTo (ufA o) (ufF o) m (mSetF m4 o 46 (.int 0)) := T4.sF hO ⟨rfl, by omega⟩ (by decide)
          have t5 : mTo (fun _ => False) (fun k f => k = o ∧ f = 46) m4 (mSetF m4 o 46 (.int 0)) := (mTo.rf T4.wt).sF (T4.ob hO) ⟨rfl, rfl⟩ (by decide)
          rw [iF_s]
          refine ⟨fun z => absurd rfl z, fun _ => ?_⟩
          have hS5 := frS T5
          refine ev_mAddEvent (K := B) (by omega) T5.wt (T5.ob hO) hS5.2.1 hk hn9 hS5.2.2.2.2.1 G hE30 (E4.to t5 (fun _ _ _ z => z) (by omega)) (C4.to t5 (fun _ _ _ z => z) (by omega)) iF_s cB (by rw [iF_nf (by decide)]; exact (B4.2.2 lt).1) (B4.2.2 lt).2 ?_
          intro m6 t6 C6 E6
          have T6 : mTo (ufA o) (ufF o) m m6 := T5.tr (t6.mono (fun _ z => by unfold auA at z; unfold ufA; omega) (fun k f z => by unfold auF at z; unfold ufF; omega))
          have w45 : ¬ iF m6 o 45 = 0 := by
            rw [t6.nf (fun z => by unfold auF at z; omega), iF_nf (by decide)]
            exact y45
          have R6 := R.st G.2.2.1 hE30 nx lt
          refine bk224_229 T6.wt (T6.ob hO) ?_
          rcases C6 with ⟨c1, c2, c3⟩ | ⟨c1, c2, c3⟩
          · have G6 := (uAd_gd G cB hE30).elim (fun q => absurd q (by omega)) id
            exact ihn m6 (uAd P tk pt U B) _ (by rw [uAd_e (by have := G.2.2.1; omega)]; omega) T6 w45 G6 R6 c2 E6 c3
          · refine bk224_135 T6.wt (T6.ob hO) ?_
            rw [c2]
            refine ⟨fun z => absurd z one0, fun _ => ⟨fun _ => ?_, fun z => absurd one0 z⟩⟩
            refine hQ _ T6 w45 (Or.inl ⟨c2, Or.inr (Or.inl ?_)⟩)
            rw [R6.z (Or.inl c1)]
            exact c1
      | succ r ih =>
        intro t m4 B ht T4 y45 E4 C4 B4 g4 all
        have hS4 := frS T4
        refine bk224_159 T4.wt (T4.ob hO) ?_
        rw [hS4.2.1.2.1, nIle (by omega) (by omega)]
        refine ⟨fun z => by omega, fun _ => ?_⟩
        refine ev_choose (by omega) T4.wt (T4.ob hO) hS4.2.1 hk G E4 C4 (by omega) (hn9 t (by omega)) B4 g4 ?_
        intro m5 B5 t5 R5 g5 l5 all5
        have T5 : mTo (ufA o) (ufF o) m m5 := T4.tr (t5.mono (fun _ z => by unfold csA at z; unfold ufA; omega) (fun k f z => by unfold csF at z; unfold ufF; omega))
        refine bk224_172 T5.wt (T5.ob hO) ?_
        rintro v rfl
        rw [nIinc]
        refine ih (t + 1) m5 B5 (by omega) T5 (by rw [t5.nf (fun z => by unfold csF at z; omega)]; exact y45) (E4.to t5 (fun i _ _ z => by unfold csA at z; omega) (fun z => by unfold csF at z; omega)) (C4.to t5 (fun i _ _ z => by unfold csA at z; omega) (fun z => by unfold csF at z; omega)) R5 (g5.up (by omega)) (fun K k1 k2 k3 => ?_)
        by_cases w : kTr K = t
        · exact all5 K k1 w k3
        · have := all K k1 (by omega) k3
          omega
    exact loop T 0 m3 1073741824 (by omega) T3 y45 E3 C3 ⟨by rw [z64, kSz_none], fun _ => z63, fun z => absurd z (Nat.lt_irrefl _)⟩ (Or.inl rfl) (fun K _ z => absurd z (Nat.not_lt_zero _))
theorem ev_unfold (hd : 6 ≤ d) (hT : mWT m) (hS : mS m o P T tk pt fi V) (h45 : iF m o 45 = 0 ∨ mUnf m o P T tk pt V.1)
    (hQ : ∀ m', mTo (ufA o) (ufF o) m m' → ¬ iF m' o 45 = 0 → mUnf m' o P T tk pt V.1 → Q none m') : mEv d 224 [.ref o] m Q := by
  have hk := hS.2.2.1
  have hT10 := hk.2.1
  have hP10 := hk.1
  have hO := hS.1
  have hm := hS.2.2.2.2.2.1
  have sm : ∀ p, p ≤ 10 → fb_sm V.1 p ≤ 990 := fun p hp => by have := fb_sm_bound (f := V.1) (c := 99) (n := p) (fun k _ => hm k); omega
  have frS : ∀ {m1}, mTo (ufA o) (ufF o) m m1 → mS m1 o P T tk pt fi V := fun T1 => hS.to T1 (fun i h1 h2 z => by unfold ufA at z; omega) (fun z => by unfold ufA at z; omega) (fun z => by unfold ufF at z; omega) (fun z => by unfold ufF at z; omega) (fun z => by unfold ufF at z; omega) (fun z => by unfold ufF at z; omega)
  refine mEv.at (by omega) G224 (Nat.le_of_ble_eq_true rfl) ?_
  refine bk224_0 hT hO ⟨fun q => ?_, fun q => hQ m (mTo.rf hT) q (h45.resolve_left q)⟩
  rintro m1 rfl m2 rfl m3 rfl
  have T3 : mTo (ufA o) (ufF o) m (mSetF (mSetF (mSetF m o 45 (.int 1)) o 47 (.int 0)) o 55 (.int 0)) := (((mTo.rf hT).sF hO ⟨rfl, by omega⟩ (by decide)).sF hO ⟨rfl, by omega⟩ (by decide)).sF hO ⟨rfl, by omega⟩ (by decide)
  generalize hm3 : mSetF (mSetF (mSetF m o 45 (.int 1)) o 47 (.int 0)) o 55 (.int 0) = m3 at T3
  have y45 : iF m3 o 45 = 1 := by rw [← hm3, iF_nf (by decide), iF_nf (by decide), iF_s]
  have y47 : iF m3 o 47 = nI 0 := by rw [← hm3, iF_nf (by decide), iF_s]; rfl
  have y55 : iF m3 o 55 = nI 0 := by rw [← hm3, iF_s]; rfl
  clear hm3
  have hS3 := frS T3
  refine ev_allTok (by omega) T3.wt (T3.ob hO) hS3.2.1 hP10 hS3.2.2.2.2.1 hm ?_
  -- great: the end
  have bad : ∀ m4 (x2 : Option Value), mTo (ufA o) (ufF o) m m4 → iF m4 o 45 = 1 → iF m4 o 46 = 1 → uBad P T tk pt V.1 → mEs (d - 1) 224 o g224 (135, [some (.ref o), some (.int 1), x2], [], m4) Q := by
    intro m4 x2 T4 z45 z46 hb
    refine bk224_135 T4.wt (T4.ob hO) ?_
    rw [z46]
    exact ⟨fun z => absurd z one0, fun _ => ⟨fun _ => hQ m4 T4 (by rw [z45]; exact one0) (Or.inl ⟨z46, hb⟩), fun z => absurd one0 z⟩⟩
  have badp : ∀ m4 (v : Int32) (x2 : Option Value), mTo (ufA o) (ufF o) m m4 → iF m4 o 45 = 1 → iF m4 o 46 = 1 → uBad P T tk pt V.1 → mEs (d - 1) 224 o g224 (88, [some (.ref o), some (.int v), x2], [], m4) Q := by
    intro m4 v x2 T4 z45 z46 hb
    refine bk224_88 T4.wt (T4.ob hO) ?_
    rw [z46]
    exact ⟨fun _ => bad m4 _ T4 z45 z46 hb, fun _ => ⟨fun _ => bad m4 _ T4 z45 z46 hb, fun z => absurd one0 z⟩⟩
  -- the first conditions
  have conds : ¬ uTg P T tk V.1 → ∀ r p m4 (x2 : Option Value), r + p = P → mTo (ufA o) (ufF o) m m4 → iF m4 o 45 = 1 → iF m4 o 47 = nI 0 → mcC (tnS P tk) m4 o (uAp u00 V.1 0 p) → mEs (d - 1) 224 o g224 (88, [some (.ref o), some (.int (nI p)), x2], [], m4) Q := by
    intro hg r
    induction r with
    | zero =>
      intro p m4 x2 hp T4 z45 z47 C4
      obtain rfl : p = P := by omega
      rcases C4 with ⟨c1, c2, c3⟩ | ⟨c1, c2, c3⟩
      · have e0 : uE (uIn p V.1) = 0 := (uAp_mo (U := u00) (g := V.1) (o := 0) (P := p) (by decide) p (Nat.le_refl _)).1
        refine bk224_88 T4.wt (T4.ob hO) ?_
        rw [(frS T4).2.1.1]
        refine ⟨fun _ => ?_, fun z => absurd ((nIle (by omega) (by omega)).mpr (Nat.le_refl _)) z⟩
        exact ev_ufMain (by omega) hS hg hQ 30 m4 (uIn p V.1) _ (by omega) T4 (by rw [z45]; exact one0) (uIn_gd c1) uRe_0 c2 ⟨by rw [e0]; exact z47, fun e he => by omega⟩ c3
      · refine badp m4 _ _ T4 z45 c2 (Or.inr (Or.inl ?_))
        have e : uZ p T tk pt V.1 = uIn p V.1 := uRe_0.z (Or.inl c1)
        rw [e]; exact c1
    | succ r ih =>
      intro p m4 x2 hp T4 z45 z47 C4
      have M := uAp_mo (U := u00) (g := V.1) (o := 0) (P := P) (by decide) p (by omega)
      rcases id C4 with ⟨c1, c2, c3⟩ | ⟨c1, c2, c3⟩
      · refine bk224_88 T4.wt (T4.ob hO) ?_
        rw [(frS T4).2.1.1, nIle (by omega) (by omega), c2]
        refine ⟨fun z => by omega, fun _ => ⟨fun z => absurd rfl z, fun _ => ?_⟩⟩
        have mp := hm p
        have inn : ∀ s k m5, s + k = V.1 p → mTo (ufA o) (ufF o) m m5 → iF m5 o 45 = 1 → iF m5 o 47 = nI 0 → mcC (tnS P tk) m5 o (uAn (uAp u00 V.1 0 p) p 0 k) → mEs (d - 1) 224 o g224 (105, [some (.ref o), some (.int (nI p)), some (.int (nI k))], [], m5) Q := by
          intro s
          induction s with
          | zero =>
            intro k m5 hk5 T5 w45 w47 C5
            obtain rfl : k = V.1 p := by omega
            refine bk224_105 T5.wt (T5.ob hO) ?_
            rw [nI_clamp (by omega), (frS T5).2.2.2.2.1 p (by omega)]
            refine ⟨(nIin_iff (by omega)).mpr (by omega), fun _ => ?_, fun z => absurd ((nIle (by omega) (by omega)).mpr (Nat.le_refl _)) z⟩
            rintro v rfl
            rw [nIinc]
            exact ih (p + 1) m5 _ (by omega) T5 w45 w47 C5
          | succ s ihs =>
            intro k m5 hk5 T5 w45 w47 C5
            refine bk224_105 T5.wt (T5.ob hO) ?_
            rw [nI_clamp (by omega), (frS T5).2.2.2.2.1 p (by omega), nIle (by omega) (by omega)]
            refine ⟨(nIin_iff (by omega)).mpr (by omega), fun z => by omega, fun _ => ?_⟩
            refine ev_mAddCond (e := 0) (V := uAn (uAp u00 V.1 0 p) p 0 k) (N := 0) (by omega) T5.wt (T5.ob hO) C5 (Nat.zero_le _) (fun c f _ z => ?_) ?_
            · rw [hb_an, hb_ap] at z
              exact absurd z.1 (Nat.not_lt_zero _)
            intro m6 t6 C6
            have T6 : mTo (ufA o) (ufF o) m m6 := T5.tr (t6.mono (fun _ z => by unfold adA at z; unfold ufA; omega) (fun k f z => by unfold adF at z; unfold ufF; omega))
            refine bk224_121 T6.wt (T6.ob hO) ?_
            rintro v rfl
            rw [nIinc]
            exact ihs (k + 1) m6 (by omega) T6 (by rw [t6.nf (fun z => by unfold adF at z; omega)]; exact w45) (by rw [t6.nf (fun z => by unfold adF at z; omega)]; exact w47) C6
        exact inn (V.1 p) 0 m4 (by omega) T4 z45 z47 C4
      · refine badp m4 _ _ T4 z45 c2 (Or.inr (Or.inl ?_))
        have y6 := uAp_81 c1 (P - p)
        rw [show p + (P - p) = P by omega] at y6
        have e : uZ P T tk pt V.1 = uIn P V.1 := uRe_0.z (Or.inl y6)
        rw [e]; exact y6
  -- what is taken
  have taken : ∀ r t m4 (x2 : Option Value), r + t = T → mTo (ufA o) (ufF o) m m4 → iF m4 o 45 = 1 → iF m4 o 47 = nI 0 → iF m4 o 55 = nI 0 → iF m4 o 46 = bz (12 < fb_sm V.1 P ∨ ∃ u, u < t ∧ 3 < tnS P tk u) → mEs (d - 1) 224 o g224 (43, [some (.ref o), some (.int (nI t)), x2], [], m4) Q := by
    intro r
    induction r with
    | zero =>
      intro t m4 x2 ht T4 z45 z47 z55 z46
      obtain rfl : t = T := by omega
      refine bk224_43 T4.wt (T4.ob hO) ?_
      rw [(frS T4).2.1.2.1]
      refine ⟨fun _ => ?_, fun z => absurd ((nIle (by omega) (by omega)).mpr (Nat.le_refl _)) z⟩
      by_cases hg : uTg P t tk V.1
      · exact badp m4 _ _ T4 z45 (by rw [z46]; exact bz_t hg) (Or.inl hg)
      · refine conds hg P 0 m4 _ (by omega) T4 z45 z47 (Or.inl ⟨Nat.zero_le _, by rw [z46]; exact bz_f hg, z55, fun c hc => absurd hc (Nat.not_lt_zero _)⟩)
    | succ r ih =>
      intro t m4 x2 ht T4 z45 z47 z55 z46
      have st : ∀ v : Int32, v = bz (12 < fb_sm V.1 P ∨ ∃ u, u < t + 1 ∧ 3 < tnS P tk u) → mEs (d - 1) 224 o g224 (43, [some (.ref o), some (.int (nI (t + 1))), x2], [], mSetF m4 o 46 (.int v)) Q := by
        intro v hv
        refine ih (t + 1) _ x2 (by omega) (T4.sF hO ⟨rfl, by omega⟩ (by decide)) ?_ ?_ ?_ ?_
        · rw [iF_nf (by decide)]; exact z45
        · rw [iF_nf (by decide)]; exact z47
        · rw [iF_nf (by decide)]; exact z55
        · rw [iF_s]; exact hv
      refine bk224_43 T4.wt (T4.ob hO) ?_
      rw [(frS T4).2.1.2.1, nIle (by omega) (by omega), z46, bz_n0]
      refine ⟨fun z => by omega, fun _ => ⟨fun z => ?_, fun z => ?_⟩⟩
      · rintro m5 rfl v rfl
        rw [nIinc]
        exact st 1 (bz_t (z.imp id (fun ⟨u, h1, h2⟩ => ⟨u, by omega, h2⟩))).symm
      · refine ev_sumTk (by omega) T4.wt (T4.ob hO) (frS T4).2.1 hk (by omega) ?_
        refine bk224_68 T4.wt (T4.ob hO) (T4.ob hO) ?_
        have sb : tnS P tk t ≤ 90 := by have := fb_sm_bound (f := tk t) (c := 9) (n := P) (fun k _ => hk.2.2.1 t k); unfold tnS; omega
        rw [show fb_sm (tk t) P = tnS P tk t from rfl, l3, nIle (by omega) (by omega)]
        refine ⟨fun y => ?_, fun y => ?_⟩
        · rintro m5 rfl v rfl
          rw [nIinc]
          refine st 0 (bz_f (fun q => z (q.imp id (fun ⟨u, h1, h2⟩ => ⟨u, ?_, h2⟩)))).symm
          refine Nat.lt_of_not_le fun w => ?_
          obtain rfl : u = t := by omega
          omega
        · rintro m5 rfl v rfl
          rw [nIinc]
          exact st 1 (bz_t (Or.inr ⟨t, by omega, by omega⟩)).symm
  refine bk224_28 T3.wt (T3.ob hO) (T3.ob hO) ?_
  have s10 := sm P hP10
  rw [l12, nIle (by omega) (by omega)]
  refine ⟨fun z => ?_, fun z => ?_⟩
  · rintro m4 rfl
    refine taken T 0 _ _ (by omega) (T3.sF hO ⟨rfl, by omega⟩ (by decide)) ?_ ?_ ?_ ?_
    · rw [iF_nf (by decide)]; exact y45
    · rw [iF_nf (by decide)]; exact y47
    · rw [iF_nf (by decide)]; exact y55
    · rw [iF_s]
      exact (bz_f (fun q => q.elim (fun q => by omega) (fun ⟨u, h1, _⟩ => by omega))).symm
  · rintro m4 rfl
    refine taken T 0 _ _ (by omega) (T3.sF hO ⟨rfl, by omega⟩ (by decide)) ?_ ?_ ?_ ?_
    · rw [iF_nf (by decide)]; exact y45
    · rw [iF_nf (by decide)]; exact y47
    · rw [iF_nf (by decide)]; exact y55
    · rw [iF_s]
      exact (bz_t (Or.inl (by omega))).symm
end MUNB
