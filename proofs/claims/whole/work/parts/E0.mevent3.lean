/-! The model's unfolding: an event comes. -/
section MUNA
variable {P T d o K : Nat} {tk pt : Nat → Nat → Nat} {fi mk : Nat → Nat} {U : uS} {m : mMem} {Q : Option Value → mMem → Prop}
theorem ev_mAddEvent (hd : 4 ≤ d) (hT : mWT m) (hO : m.1 o = some (.inr 8) ∧ o ≠ 0) (hN : mNet m o P T tk pt) (hk : okNet P T tk pt fi) (hn9 : ∀ t, t < T → tnS P tk t ≤ 3) (h4 : ∀ p, p < 10 → m.2.2.1 (64 * o + 4) p = nI (mk p)) (hG : uGd P T tk U) (hE : uE U < 30) (hR : meR P tk pt mk m o U) (hC : mcR (tnS P tk) m o U) (h46 : iF m o 46 = 0) (hK : uCd P T tk pt mk U K) (h63 : iF m o 63 = nI (kTr K)) (h40 : ∀ j, j < tnS P tk (kTr K) → m.2.2.1 (64 * o + 40) j = nI (kAt K j))
    (hQ : ∀ m', mTo (auA o) (auF o) m m' → mcC (tnS P tk) m' o (uAd P tk pt U K) → meR P tk pt mk m' o (uAd P tk pt U K) → Q none m') : mEv d 235 [.ref o] m Q := by
  have hP10 := hk.1
  have hT10 := hk.2.1
  have h80 := hG.2.2.1
  have htT := hK.1
  have ht3 := hn9 _ hK.1
  have h3 : ∀ f, f < uE U → tnS P tk (uBy U f) ≤ 3 := fun f hf => hn9 _ (hG.2.2.2.2 f hf)
  have x := ev_xt (P := P) (tk := tk) (K := K) h80
  have iE : mIn (nI (uE U)) 31 = true := (nIin_iff (by omega)).mpr (by omega)
  have fN : ∀ {m1}, mTo (auA o) (auF o) m m1 → mNet m1 o P T tk pt := fun T1 => hN.to T1 (fun z => by unfold auA at z; omega) (fun z => by unfold auA at z; omega) (fun z => by unfold auF at z; omega) (fun z => by unfold auF at z; omega)
  have f4 : ∀ {m1}, mTo (auA o) (auF o) m m1 → ∀ p, p < 10 → m1.2.2.1 (64 * o + 4) p = nI (mk p) := fun T1 p hp => by rw [T1.i (fun z => by unfold auA at z; omega)]; exact h4 p hp
  refine mEv.at (by omega) G235 (Nat.le_of_ble_eq_true rfl) ?_
  refine bk235_0 hT hO ?_
  rintro v rfl
  rw [hR.1, nI_clamp (n := uE U) (by omega), h63]
  refine ⟨iE, ?_⟩
  intro m2 h2
  have T2 : mTo (auA o) (auF o) m m2 := by rw [h2]; exact (mTo.rf hT).sI (by unfold auA; omega)
  have R2 : meR P tk pt mk m2 o U := by rw [h2]; exact hR.wr hP10 h3 (by omega)
  have C2 : mcR (tnS P tk) m2 o U := by rw [h2]; exact hC.wr (by omega)
  have e28 : m2.2.2.1 (64 * o + 28) (uE U) = nI (kTr K) := by rw [h2, wr_eq]
  have e63 : iF m2 o 63 = nI (kTr K) := by rw [h2]; exact h63
  have e46 : iF m2 o 46 = 0 := by rw [h2]; exact h46
  have e40 : ∀ j, j < tnS P tk (kTr K) → m2.2.2.1 (64 * o + 40) j = nI (kAt K j) := fun j hj => by rw [h2, wr_ne (by omega)]; exact h40 j hj
  clear h2
  rw [e63]
  refine ev_layWants (by omega) T2.wt (T2.ob hO) (fN T2) hP10 (by omega) ht3 ?_
  intro m3 t3 z60 _
  have T3 : mTo (auA o) (auF o) m m3 := T2.tr (t3.mono (fun _ z => by unfold lwA at z; unfold auA; omega) (fun k f z => by unfold lwF at z; unfold auF; omega))
  have R3 : meR P tk pt mk m3 o U := R2.to t3 (fun i _ _ z => by unfold lwA at z; omega) (fun z => by unfold lwF at z; omega)
  have C3 : mcR (tnS P tk) m3 o U := C2.to t3 (fun i _ _ z => by unfold lwA at z; omega) (fun z => by unfold lwF at z; omega)
  have g28 : m3.2.2.1 (64 * o + 28) (uE U) = nI (kTr K) := by rw [t3.i (fun z => by unfold lwA at z; omega)]; exact e28
  have g63 : iF m3 o 63 = nI (kTr K) := by rw [t3.nf (fun z => by unfold lwF at z; omega)]; exact e63
  have g46 : iF m3 o 46 = 0 := by rw [t3.nf (fun z => by unfold lwF at z; omega)]; exact e46
  have g40 : ∀ j, j < tnS P tk (kTr K) → m3.2.2.1 (64 * o + 40) j = nI (kAt K j) := fun j hj => by rw [t3.i (fun z => by unfold lwA at z; omega)]; exact e40 j hj
  clear t3
  refine bk235_23 T3.wt (T3.ob hO) ?_
  rw [nI_clamp (n := uE U) (by omega), z60, shl1 (by omega)]
  refine ⟨iE, ?_⟩
  intro m4 h4'
  have T4 : mTo (auA o) (auF o) m m4 := by rw [h4']; exact T3.sI (by unfold auA; omega)
  have S4 : aeS P tk pt mk m4 o U K := by
    rw [h4']
    exact ⟨R3.wr hP10 h3 (by omega), by rw [wr_ne (by omega)]; exact g28, wr_eq, z60, g63, g46, fun j hj => by rw [wr_ne (by omega)]; exact g40 j hj⟩
  have C4 : mcR (tnS P tk) m4 o U := by rw [h4']; exact C3.wr (by omega)
  clear h4'
  refine ⟨iE, ?_⟩
  intro m5 h5
  have T5 : mTo (auA o) (auF o) m m5 := by rw [h5]; exact T4.sI (by unfold auA; omega)
  have S5 : aeS P tk pt mk m5 o U K := by rw [h5]; exact S4.wr hP10 h3 (by omega)
  have C5 : mcR (tnS P tk) m5 o U := by rw [h5]; exact C4.wr (by omega)
  have g31 : m5.2.2.1 (64 * o + 31) (uE U) = nI (2 ^ uE U) := by rw [h5, wr_eq]
  clear h5
  refine ⟨iE, ?_⟩
  intro m6 h6
  have T6 : mTo (auA o) (auF o) m m6 := by rw [h6]; exact T5.sI (by unfold auA; omega)
  have S6 : aeS P tk pt mk m6 o U K := by rw [h6]; exact S5.wr hP10 h3 (by omega)
  have C6 : mcR (tnS P tk) m6 o U := by rw [h6]; exact C5.wr (by omega)
  have k31 : m6.2.2.1 (64 * o + 31) (uE U) = nI (2 ^ uE U ||| uUn U (kAt K) 0) := by
    rw [h6, wr_ne (by omega), g31]
    show nI (2 ^ uE U) = nI (2 ^ uE U ||| 0)
    rw [Nat.or_zero]
  have k34 : m6.2.2.1 (64 * o + 34) (uE U) = nI (orS (fun j => bs (uHb (tnS P tk) U (kAt K j)) 31) 0) := by
    rw [h6, wr_eq]
    rfl
  clear h6
  refine ae_a (by omega) hO hP10 hn9 hG hE hK _ _ ?_ (tnS P tk (kTr K)) 0 m6 (by omega) T6 S6 C6 k31 k34 (fun j hj => by omega)
  clear k31 k34 S6 C6 T6 g31 S5 C5 T5 S4 C4 T4
  intro m7 T7 S7 C7 q31 q34 q29
  refine ae_b (m1 := m7) hO hP10 hn9 hG hE hK _ _ ?_ (tnS P tk (kTr K)) 0 m7 (by omega) T7 S7 C7.1 (fun c hc => ?_) (fun _ _ _ => rfl)
  · intro m8 T8 S8 e55 rw8 fr8
    have s31 : m8.2.2.1 (64 * o + 31) (uE U) = nI (2 ^ uE U ||| uUn U (kAt K) (tnS P tk (kTr K))) := by rw [fr8 _ _ (by omega)]; exact q31
    have s34 : m8.2.2.1 (64 * o + 34) (uE U) = nI (orS (fun j => bs (uHb (tnS P tk) U (kAt K j)) 31) (tnS P tk (kTr K))) := by rw [fr8 _ _ (by omega)]; exact q34
    have s29 : ∀ j, j < tnS P tk (kTr K) → m8.2.2.1 (64 * o + 29) (3 * uE U + j) = nI (kAt K j) := fun j hj => by rw [fr8 _ _ (by omega)]; exact q29 j hj
    clear q31 q34 q29 fr8 T7 S7 C7
    obtain ⟨R8, p28, p30, p60, p63, p46, p40⟩ := S8
    refine ae_c (K := K) (m1 := m8) hO hG hE _ _ ?_ (uE U) 0 m8 (by omega) T8 (fun f hf => by rw [if_neg (by omega)]; exact (R8.2 f hf).2.2.2.2.2.2) s34 (fun _ _ _ => rfl) (fun _ => rfl) R8.1
    intro m9 T9 G9 fr9 ff9 e47
    -- the rows in terms of the new state
    have wE : uE (uEv P tk U K) = uE U + 1 := x.1
    have wBy := x.2.2.2.1
    have wPa := x.2.2.2.2.1
    have wHs := x.2.2.2.2.2.1
    have un30 := un_lt hG (tnS P tk (kTr K)) hK.2.2.1.1.2.1
    have p30' : (2 : Nat) ^ 30 < 2 ^ 31 := by decide
    have bnd : ∀ f, f < uE U + 1 → uPa (uEv P tk U K) f < 2 ^ 31 := by
      intro f hf
      by_cases w : f = uE U
      · rw [w, wPa]
        have e1 : (2 : Nat) ^ uE U < 2 ^ 30 := Nat.pow_lt_pow_right (by decide) hE
        have := Nat.or_lt_two_pow e1 un30
        unfold uUn at this
        omega
      · rw [(x.2.2.1 f (by omega)).2.1]
        have e1 := (hG.1.2.1 f (by omega)).1
        have e2 : (2 : Nat) ^ uE U ≤ 2 ^ 30 := Nat.pow_le_pow_right (by decide) (by omega)
        omega
    have byT : ∀ f, f < uE U + 1 → uBy (uEv P tk U K) f < T := by
      intro f hf
      by_cases w : f = uE U
      · rw [w, wBy]; exact htT
      · rw [(x.2.2.1 f (by omega)).1]; exact hG.2.2.2.2 f (by omega)
    have H9 : meH P tk m9 o (uEv P tk U K) (uE U + 1) := by
      intro f hf
      rw [fr9 _ _ (by omega), fr9 _ _ (by omega), fr9 _ _ (by omega)]
      by_cases w : f = uE U
      · subst w
        rw [wBy]
        refine ⟨p28, ?_, p30, fun i hi => ?_⟩
        · rw [wPa]; exact s31
        · rw [fr9 _ _ (by omega), wHs i hi]; exact s29 i hi
      · obtain ⟨c1, c2, c3, c4, c5, c6, c7⟩ := R8.2 f (by omega)
        obtain ⟨d1, d2, d3⟩ := x.2.2.1 f (by omega)
        rw [d1, d2, d3]
        exact ⟨c1, c2, c4, fun i hi => by rw [fr9 _ _ (by omega)]; exact c5 i hi⟩
    have L9 : meL P tk pt mk m9 o (uEv P tk U K) (uE U) := by
      intro f hf p hp
      rw [fr9 _ _ (by omega), uLf_xt x hf]
      exact (R8.2 f hf).2.2.2.2.2.1 p hp
    have X9 : meX P tk pt mk m9 o (uEv P tk U K) (uE U) := by
      intro f hf
      rw [fr9 _ _ (by omega), bz_cg (uCu_xt x hf)]
      exact (R8.2 f hf).2.2.1
    refine ae_d (m := m) (m1 := m9) (W := uEv P tk U K) (N := uE U) (by omega) hO (fN T9) hP10 hT10 wE hE byT H9 (f4 T9) e47 ?_ P 0 m9 _ _ (by omega) T9 (fun q hq => by omega) (fun _ _ _ => rfl) (fun _ => rfl)
    intro ma x2 x3 x4 Ta r33 fra ffa
    refine ev_isCutOff (U := uEv P tk U K) (tk := tk) (pt := pt) (by omega) Ta.wt (Ta.ob hO) (fN Ta).1 hP10 hE (f4 Ta) (fun f hf => ⟨?_, bnd f (by omega)⟩) (fun f hf p hp => ?_) ?_
    · rw [fra _ _ (by omega)]; exact (H9 f (by omega)).2.1
    · by_cases w : f = uE U
      · rw [w]; exact r33 p hp
      · rw [fra _ _ (by omega)]; exact L9 f (by omega) p hp
    refine bk235_316 Ta.wt (Ta.ob hO) (Ta.wt.arr (Ta.ob hO) 31 rfl (by decide)) ?_
    rw [nI_clamp (n := uE U) (by omega)]
    refine ⟨iE, bz_01 _, ?_⟩
    intro mb hb
    have Tb : mTo (auA o) (auF o) m mb := by rw [hb]; exact Ta.sI (by unfold auA; omega)
    have frb : ∀ k y, k ≠ 64 * o + 32 ∨ y ≠ uE U → mb.2.2.1 k y = ma.2.2.1 k y := fun k y h => by rw [hb, wr_ne h]
    have e32 : mb.2.2.1 (64 * o + 32) (uE U) = bz (uCu P tk pt mk (uEv P tk U K) (uE U)) := by rw [hb, wr_eq]
    have ffb : ∀ f, iF mb o f = iF m9 o f := fun f => by rw [hb]; exact ffa f
    clear hb
    have hbv : ∀ c f, uC U ≤ c → ¬ uHb (tnS P tk) (uEv P tk U K) c f := by
      intro c f hc z
      rcases x.hb.mp z with z | ⟨_, i, hi, z⟩
      · obtain ⟨z1, i, z2, z3⟩ := z
        have := hG.1.2.2.1 f z1 i z2
        omega
      · have := hK.2.2.1.1.2.1 i hi
        omega
    refine ae_e (m := mb) (t := kTr K) (e := uE U) (N := uC U) (W := uEv P tk U K) (T := T) (by omega) (Tb.ob hO) (fN Tb) hP10 (by omega) (fun p => hk.2.2.2.1 _ p) (by rw [ffb, ff9 _ (by decide)]; exact p63) (Nat.le_refl _) (show uC U ≤ 81 by omega) hbv ?_ P 0 mb _ _ (by omega) (mTo.rf Tb.wt) (Or.inl ⟨h80, ?_, ?_, fun c hc => ?_⟩)
    · intro mc tc Cc
      have Tc : mTo (auA o) (auF o) m mc := Tb.tr (tc.mono (fun _ z => by unfold adA at z; unfold auA; omega) (fun k f z => by unfold adF at z; unfold auF; omega))
      have frc : ∀ k y, ¬ adA o k → mc.2.2.1 k y = mb.2.2.1 k y := fun k y h => by rw [tc.i h]
      have W9 : meR P tk pt mk mc o (uEv P tk U K) := by
        refine ⟨by rw [tc.nf (fun z => by unfold adF at z; omega), ffb, e47, wE], fun f hf => ?_⟩
        rw [wE] at hf
        obtain ⟨a1, a2, a3, a4⟩ := H9 f hf
        rw [frc _ _ (by unfold adA; omega), frc _ _ (by unfold adA; omega), frc _ _ (by unfold adA; omega), frc _ _ (by unfold adA; omega), frc _ _ (by unfold adA; omega)]
        refine ⟨?_, ?_, ?_, ?_, fun i hi => ?_, fun p hp => ?_, ?_⟩
        · rw [frb _ _ (by omega), fra _ _ (by omega)]; exact a1
        · rw [frb _ _ (by omega), fra _ _ (by omega)]; exact a2
        · by_cases w : f = uE U
          · rw [w]; exact e32
          · rw [frb _ _ (by omega), fra _ _ (by omega)]; exact X9 f (by omega)
        · rw [frb _ _ (by omega), fra _ _ (by omega)]; exact a3
        · rw [frc _ _ (by unfold adA; omega), frb _ _ (by omega), fra _ _ (by omega)]; exact a4 i hi
        · rw [frc _ _ (by unfold adA; omega), frb _ _ (by omega)]
          by_cases w : f = uE U
          · rw [w]; exact r33 p hp
          · rw [fra _ _ (by omega)]; exact L9 f (by omega) p hp
        · rw [frb _ _ (by omega), fra _ _ (by omega)]; exact G9 f (by omega)
      exact hQ mc Tc Cc (meR_mo W9 (uAd_mo (by omega)))
    · rw [ffb, ff9 _ (by decide)]; exact p46
    · rw [ffb, ff9 _ (by decide)]; exact e55
    · have hc' : c < uC U := hc
      obtain ⟨b1, b2, b3⟩ := rw8 c hc'
      refine ⟨?_, ?_, ?_⟩
      · rw [frb _ _ (by omega), fra _ _ (by omega), fr9 _ _ (by omega)]; exact b1
      · rw [frb _ _ (by omega), fra _ _ (by omega), fr9 _ _ (by omega)]; exact b2
      · rw [frb _ _ (by omega), fra _ _ (by omega), fr9 _ _ (by omega), b3]
        congr 1
        exact bs_cg fun f _ => x.hb.symm
  · obtain ⟨b1, b2, b3⟩ := C7.2 c hc
    refine ⟨b1, b2, ?_⟩
    rw [b3]
    congr 1
    exact bs_cg fun f _ => ⟨Or.inl, fun h => h.elim id (fun ⟨_, j, hj, _⟩ => by omega)⟩
end MUNA
