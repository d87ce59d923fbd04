/-! The model's unfolding: look. -/
section MUN5
variable {P T d o t B : Nat} {tk pt : Nat → Nat → Nat} {fi mk : Nat → Nat} {C : Nat → Nat} {U : uS} {m : mMem} {Q : Option Value → mMem → Prop}
theorem ev_look (hd : 3 ≤ d) (hT : mWT m) (hO : m.1 o = some (.inr 8) ∧ o ≠ 0) (hG : uGd P T tk U) (hE : meR P tk pt mk m o U) (hC : mcR (tnS P tk) m o U) (hT10 : T ≤ 10) (ht : t < T) (h0 : 0 < tnS P tk t) (h3 : tnS P tk t ≤ 3) (h60 : iF m o 60 = nI (tnS P tk t)) (hV : mVt P tk pt mk U t C (tnS P tk t)) (hch : ∀ i, i < tnS P tk t → m.2.2.1 (64 * o + 39) i = nI (C i)) (hB : bsR P tk m o B) (hg : gdB P T tk pt mk U t B)
    (hQ : ∀ m' B', mTo (lkA o) (lkF o) m m' → bsR P tk m' o B' → gdB P T tk pt mk U t B' → B' ≤ B → (∀ K, uCd P T tk pt mk U K → kTr K = t → prm (tnS P tk t) C (kAt K) → ¬ uThK P tk U K → B' ≤ K) → Q none m') : mEv d 231 [.ref o, .int (nI t)] m Q := by
  have h80 := hG.2.2.1
  have h30 := hG.2.1
  have cl : ∀ i, i < tnS P tk t → C i < uC U := fun i hi => (hV i hi).1
  refine mEv.at (by omega) G231 (Nat.le_of_ble_eq_true rfl) ?_
  refine bk231_0 hT hO ?_
  refine ev_sortChosen (C := C) (by omega) hT hO h3 h60 (fun i hi => ⟨hch i hi, by have := cl i hi; omega⟩) hV.ne ?_
  intro m1 A t1 pA sA rA
  have T1 : mTo (lkA o) (lkF o) m m1 := t1.mono (fun _ z => Or.inr z) (fun _ _ z => z.elim)
  have E1 : meR P tk pt mk m1 o U := hE.to t1 (fun i _ _ z => by unfold srA at z; omega) id
  have C1 : mcR (tnS P tk) m1 o U := hC.to t1 (fun i _ _ z => by unfold srA at z; omega) id
  have z60 : iF m1 o 60 = nI (tnS P tk t) := by rw [t1.nf id]; exact h60
  have z39 : ∀ i, i < tnS P tk t → m1.2.2.1 (64 * o + 39) i = nI (C i) := fun i hi => by rw [t1.i (fun z => by unfold srA at z; omega)]; exact hch i hi
  have B1 : bsR P tk m1 o B := by
    obtain ⟨b1, b2, b3⟩ := hB
    refine ⟨by rw [t1.nf id]; exact b1, fun e => by rw [t1.nf id]; exact b2 e, fun e => ⟨by rw [t1.nf id]; exact (b3 e).1, fun i hi => ?_⟩⟩
    rw [t1.i (fun z => by unfold srA at z; omega)]; exact (b3 e).2 i hi
  have lA : ∀ i, i < tnS P tk t → A i < 128 := fun i hi => by
    obtain ⟨j, hj, e⟩ := pA.mem hi
    have := cl j hj
    omega
  clear hE hC hch hB h60 t1
  -- the number
  have cd := vt_cd hV hG pA sA h0 h3 ht hT10
  have num := fun K (h1 : uCd P T tk pt mk U K) h2 h4 => vt_num (T := T) (mk := mk) (pt := pt) pA sA h3 lA (show t < 16 by omega) h1 h2 h4
  have kS : kSz (kyN (pcN (uUn U C (tnS P tk t)) + 1) t (tnS P tk t) A) = pcN (uUn U C (tnS P tk t)) + 1 := ky_s (by omega) lA
  have kT : kTr (kyN (pcN (uUn U C (tnS P tk t)) + 1) t (tnS P tk t) A) = t := ky_t (by omega) lA
  have kA : ∀ i, kAt (kyN (pcN (uUn U C (tnS P tk t)) + 1) t (tnS P tk t) A) i = if i < tnS P tk t then A i else 0 := ky_a (by omega) lA h3
  have sz := uCd_sz hG cd
  generalize hK : kyN (pcN (uUn U C (tnS P tk t)) + 1) t (tnS P tk t) A = K at *
  have hKlt : K < 1073741824 := by
    unfold kSz at sz
    omega
  have un31 : uUn U C (tnS P tk t) < 2 ^ 31 := by
    have := un_lt hG (tnS P tk t) cl
    have : (2 : Nat) ^ 30 < 2 ^ 31 := by decide
    omega
  -- nothing changes
  have stay : B ≤ K ∨ uThK P tk U K → Q none m1 := by
    intro h
    refine hQ m1 B T1 B1 hg (Nat.le_refl _) (fun L l1 l2 l3 l4 => ?_)
    have := num L l1 l2 l3
    subst this
    exact h.elim id (fun h => absurd h l4)
  -- it is the best so far
  have best : K < B → ∀ x2 (x4 : Option Value), mEv (d - 1) 234 [.ref o, .int (nI t)] m1 (fun r m' => mEs (d - 1) 231 o g231 (78, [some (.ref o), some (.int (nI t)), some (.int x2), some (.int (nI (pcN (uUn U C (tnS P tk t)) + 1))), x4], r.toList ++ [], m') Q) := by
    intro lt x2 x4
    refine ev_isThere (by omega) T1.wt (T1.ob hO) hG E1 hT10 (by omega) h3 z60 (fun i hi => ⟨rA i hi, lA i hi⟩) ?_
    refine bk231_78 T1.wt (T1.ob hO) ?_
    have thI : uThK P tk U K ↔ uTh (tnS P tk) U t A := by
      unfold uThK uTh
      rw [kT]
      constructor
      · rintro ⟨e, h1, h2, h4⟩
        exact ⟨e, h1, h2, fun i hi => by rw [h4 i hi, kA, if_pos hi]⟩
      · rintro ⟨e, h1, h2, h4⟩
        exact ⟨e, h1, h2, fun i hi => by rw [h4 i hi, kA, if_pos hi]⟩
    rw [bz_0]
    refine ⟨fun q => ?_, fun q => stay (Or.inr (thI.mpr (Classical.not_not.mp q)))⟩
    rintro m2 rfl m3 rfl
    have T3 : mTo (lkA o) (lkF o) m (mSetF (mSetF m1 o 64 (.int (nI (pcN (uUn U C (tnS P tk t)) + 1)))) o 63 (.int (nI t))) := (T1.sF hO ⟨rfl, Or.inr rfl⟩ (by decide)).sF hO ⟨rfl, Or.inl rfl⟩ (by decide)
    have copy : ∀ r i m4, r + i = tnS P tk t → mTo (lkA o) (lkF o) m m4 → iF m4 o 64 = nI (kSz K) → iF m4 o 63 = nI t → iF m4 o 60 = nI (tnS P tk t) → (∀ j, j < tnS P tk t → m4.2.2.1 (64 * o + 41) j = nI (A j)) → (∀ j, j < i → m4.2.2.1 (64 * o + 40) j = nI (A j)) → mEs (d - 1) 231 o g231 (95, [some (.ref o), some (.int (nI t)), some (.int x2), some (.int (nI (pcN (uUn U C (tnS P tk t)) + 1))), some (.int (nI i))], [], m4) Q := by
      intro r
      induction r with
      | zero =>
        intro i m4 hi T4 y64 y63 y60 y41 y40
        refine bk231_95 T4.wt (T4.ob hO) ?_
        rw [y60]
        refine ⟨fun _ => ?_, fun z => absurd ((nIle (by omega) (by omega)).mpr (by omega)) z⟩
        refine hQ m4 K T4 ⟨y64, fun e => by omega, fun _ => ⟨by rw [kT]; exact y63, fun j hj => ?_⟩⟩ (Or.inr ⟨hKlt, cd, fun w => q (thI.mp w), by omega⟩) (Nat.le_of_lt lt) (fun L l1 l2 l3 l4 => ?_)
        · rw [kT] at hj
          rw [kA, if_pos hj]; exact y40 j (by omega)
        · rw [num L l1 l2 l3]; exact Nat.le_refl _
      | succ r ih =>
        intro i m4 hi T4 y64 y63 y60 y41 y40
        refine bk231_95 T4.wt (T4.ob hO) ?_
        rw [y60, nIle (by omega) (by omega), nI_clamp (by omega), y41 i (by omega)]
        refine ⟨fun z => by omega, fun _ => ⟨(nIin_iff (by omega)).mpr (by omega), (nIin_iff (by omega)).mpr (by omega), ?_⟩⟩
        rintro m5 rfl v rfl
        rw [nIinc]
        refine ih (i + 1) _ (by omega) (T4.sI (Or.inl rfl)) y64 y63 y60 (fun j hj => by rw [rdI_ne (by omega)]; exact y41 j hj) (fun j hj => ?_)
        rw [rdI_same]
        by_cases w : j = i
        · rw [w, up_s]
        · rw [up_n w]; exact y40 j (by omega)
    refine copy (tnS P tk t) 0 _ (by omega) T3 ?_ iF_s ?_ (fun j hj => rA j hj) (fun j hj => by omega)
    · rw [iF_nf (by decide), iF_s, kS]
    · rw [iF_nf (by decide), iF_nf (by decide)]; exact z60
  -- the past
  have loop : ∀ r i (x4 : Option Value), r + i = tnS P tk t → mEs (d - 1) 231 o g231 (8, [some (.ref o), some (.int (nI t)), some (.int (nI (uUn U C i))), some (.int (nI i)), x4], [], m1) Q := by
    intro r
    induction r with
    | zero =>
      intro i x4 hi
      obtain rfl : i = tnS P tk t := by omega
      refine bk231_8 T1.wt (T1.ob hO) ?_
      rw [z60]
      refine ⟨fun _ => ?_, fun z => absurd ((nIle (by omega) (by omega)).mpr (Nat.le_refl _)) z⟩
      refine ev_ones (by omega) T1.wt un31 ?_
      refine bk231_39 T1.wt (T1.ob hO) ?_
      rintro v rfl
      have bS : kSz B ≤ 32 := by
        unfold kSz
        rcases hg with e | ⟨e, _⟩ <;> omega
      rw [B1.1, nIinc, nI_ltI (by omega) (by omega), nIeq (by omega) (by omega)]
      refine ⟨fun z => stay (Or.inl ?_), fun z => ⟨fun y => best ?_ _ _, fun y => ?_⟩⟩
      · refine Nat.le_of_not_lt fun w => ?_
        have := kSz_mono (Nat.le_of_lt w)
        omega
      · refine Nat.lt_of_not_le fun w => ?_
        have := kSz_mono w
        omega
      · have y := Classical.not_not.mp y
        have bl : B < 1073741824 ∧ uCd P T tk pt mk U B ∧ ¬ uThK P tk U B ∧ kTr B ≤ t := by
          rcases hg with e | e
          · exfalso
            rw [e] at y
            have h32 : kSz 1073741824 = 32 := rfl
            omega
          · exact e
        obtain ⟨b1, b2, b3, b4⟩ := bl
        obtain ⟨c1, c2⟩ := B1.2.2 b1
        rw [c1, nIeq (by omega) (by omega)]
        refine ⟨fun w => stay (Or.inl ?_), fun w => ?_⟩
        · rw [← kS] at y
          unfold kSz at y
          unfold kTr at w b4 kT
          omega
        · have w := Classical.not_not.mp w
          rw [w] at c2
          have bz0 := b2.2.1
          rw [w] at bz0
          have lB : ∀ i, kAt B i < 128 := fun i => by
            unfold kAt
            split
            · omega
            · split
              · omega
              · split <;> omega
          have lx : lexL (tnS P tk t) A (kAt B) ↔ lexL (tnS P tk t) (kAt K) (kAt B) := by
            unfold lexL
            constructor
            · rintro ⟨i, h1, h2, h4⟩
              exact ⟨i, h1, fun j hj => by rw [kA, if_pos (by omega)]; exact h2 j hj, by rw [kA, if_pos h1]; exact h4⟩
            · rintro ⟨i, h1, h2, h4⟩
              refine ⟨i, h1, fun j hj => ?_, ?_⟩
              · have := h2 j hj
                rw [kA, if_pos (by omega)] at this
                exact this
              · rw [kA, if_pos h1] at h4
                exact h4
          refine ev_isLess (B := kAt B) (by omega) T1.wt (T1.ob hO) h3 z60 (fun i hi => ⟨rA i hi, lA i hi⟩) (fun i hi => ⟨c2 i hi, lB i⟩) ?_
          refine bk231_70 T1.wt (T1.ob hO) ?_
          rw [bz_0, lx]
          refine ⟨fun u => stay (Or.inl ?_), fun u => best ?_ _ _⟩
          · exact lex_ge (by omega) (by omega) (fun i hi => by rw [kA, if_neg (by omega)]) bz0 u
          · exact lex_lt (by omega) (by omega) h3 (Classical.not_not.mp u)
    | succ r ih =>
      intro i x4 hi
      refine bk231_8 T1.wt (T1.ob hO) ?_
      rw [z60, nIle (by omega) (by omega), nI_clamp (by omega), z39 i (by omega)]
      refine ⟨fun z => by omega, fun _ => ⟨(nIin_iff (by omega)).mpr (by omega), ?_⟩⟩
      refine ev_mpast (by omega) T1.wt (T1.ob hO) hG E1 C1 (cl i (by omega)) ?_
      refine bk231_27 T1.wt (T1.ob hO) ?_
      rintro v rfl w rfl
      rw [nIinc, or_n]
      exact ih (i + 1) x4 (by omega)
  refine bk231_4 T1.wt (T1.ob hO) ?_
  exact loop (tnS P tk t) 0 _ (by omega)
end MUN5
