/-! The model's unfolding: all ways to choose conditions for a transition. -/
def csA (o k : Nat) : Prop := 64 * o + 38 ≤ k ∧ k ≤ 64 * o + 41
def csF (o k f : Nat) : Prop := k = o ∧ (f = 60 ∨ f = 63 ∨ f = 64)
def stC (P : Nat) (tk : Nat → Nat → Nat) (t o : Nat) (m m1 : mMem) : Prop := mTo (csA o) (csF o) m m1 ∧ iF m1 o 60 = nI (tnS P tk t) ∧ ∀ i, i < tnS P tk t → m1.2.2.1 (64 * o + 38) i = nI (wnt (tk t) P i)
section MUN6
variable {P T d o t B n k : Nat} {tk pt : Nat → Nat → Nat} {fi mk : Nat → Nat} {C D : Nat → Nat} {U : uS} {m m1 m2 : mMem} {Q : Option Value → mMem → Prop}
theorem stC.sI (h : stC P tk t o m m1) {g : Nat → Int32} : stC P tk t o m (mSetI m1 (64 * o + 39) g) :=
  ⟨h.1.sI (by unfold csA; omega), h.2.1, fun i hi => by rw [rdI_ne (by omega)]; exact h.2.2 i hi⟩
theorem stC.lk (h : stC P tk t o m m1) (T2 : mTo (lkA o) (lkF o) m1 m2) : stC P tk t o m m2 :=
  ⟨h.1.tr (T2.mono (fun _ z => by unfold lkA at z; unfold csA; omega) (fun k f z => by unfold lkF at z; unfold csF; omega)), by rw [T2.nf (fun z => by unfold lkF at z; omega)]; exact h.2.1, fun i hi => by rw [T2.i (fun z => by unfold lkA at z; omega)]; exact h.2.2 i hi⟩
theorem bsR.sI (h : bsR P tk m1 o B) {g : Nat → Int32} : bsR P tk (mSetI m1 (64 * o + 39) g) o B :=
  ⟨h.1, h.2.1, fun e => ⟨(h.2.2 e).1, fun i hi => by rw [rdI_ne (by omega)]; exact (h.2.2 e).2 i hi⟩⟩
theorem gdB.up {t' : Nat} (h : gdB P T tk pt mk U t B) (ht : t ≤ t') : gdB P T tk pt mk U t' B := h.imp id (fun h => ⟨h.1, h.2.1, h.2.2.1, by have := h.2.2.2; omega⟩)
theorem mCh_cg {c : Nat} (h : ∀ i, i < k → D i = C i) (q : mCh P tk pt mk U t D k c) : mCh P tk pt mk U t C k c := by
  obtain ⟨a1, a2, a3, a4⟩ := q
  refine ⟨a1, a2, ?_, fun i hi => by rw [← h i hi]; exact a4 i hi⟩
  by_cases w : k = 0
  · exact Or.inl w
  · rw [← h (k - 1) (by omega)]; exact a3
theorem mVt_up {c : Nat} (h : mVt P tk pt mk U t C k) (hc : c < uC U) (q : mCh P tk pt mk U t C k c) : mVt P tk pt mk U t (updN C k c) (k + 1) := by
  intro j hj
  by_cases w : j = k
  · subst w
    rw [updN_s]
    exact ⟨hc, mCh_cg (fun i hi => (updN_n (by omega)).symm) q⟩
  · rw [updN_n w]
    exact ⟨(h j (by omega)).1, mCh_cg (fun i hi => (updN_n (by omega)).symm) (h j (by omega)).2⟩
theorem prm_cg {E : Nat → Nat} (h : ∀ i, i < n → D i = C i) (q : prm n D E) : prm n C E := fun p => by
  rw [← q p]
  exact fb_ct_cong (fun i hi => by rw [h i hi])
theorem ev_choose (hd : 5 ≤ d) (hT : mWT m) (hO : m.1 o = some (.inr 8) ∧ o ≠ 0) (hN : mNet m o P T tk pt) (hk : okNet P T tk pt fi) (hG : uGd P T tk U) (hE : meR P tk pt mk m o U) (hC : mcR (tnS P tk) m o U) (ht : t < T) (h3 : tnS P tk t ≤ 3) (hB : bsR P tk m o B) (hg : gdB P T tk pt mk U t B)
    (hQ : ∀ m' B', mTo (csA o) (csF o) m m' → bsR P tk m' o B' → gdB P T tk pt mk U t B' → B' ≤ B → (∀ K, uCd P T tk pt mk U K → kTr K = t → ¬ uThK P tk U K → B' ≤ K) → Q none m') : mEv d 226 [.ref o, .int (nI t)] m Q := by
  have h80 := hG.2.2.1
  have h30 := hG.2.1
  have hP10 := hk.1
  have hT10 := hk.2.1
  have fE : ∀ {m1}, stC P tk t o m m1 → meR P tk pt mk m1 o U := fun T1 => hE.to T1.1 (fun i _ _ z => by unfold csA at z; omega) (fun z => by unfold csF at z; omega)
  have fC : ∀ {m1}, stC P tk t o m m1 → mcR (tnS P tk) m1 o U := fun T1 => hC.to T1.1 (fun i _ _ z => by unfold csA at z; omega) (fun z => by unfold csF at z; omega)
  have lv : ∀ r k (C : Nat → Nat), r + k = tnS P tk t → 0 < r → mVt P tk pt mk U t C k → ∀ q c m1 B, q + c = uC U → stC P tk t o m m1 → bsR P tk m1 o B → gdB P T tk pt mk U t B → (∀ i, i < k → m1.2.2.1 (64 * o + 39) i = nI (C i)) → m1.2.2.1 (64 * o + 39) k + 1 = nI c →
      (∀ m' B', stC P tk t o m m' → bsR P tk m' o B' → gdB P T tk pt mk U t B' → B' ≤ B → (∀ i, i < k → m'.2.2.1 (64 * o + 39) i = nI (C i)) → (∀ K, uCd P T tk pt mk U K → kTr K = t → ¬ uThK P tk U K → (∃ D, mVt P tk pt mk U t D (tnS P tk t) ∧ prm (tnS P tk t) D (kAt K) ∧ (∀ i, i < k → D i = C i) ∧ c ≤ D k) → B' ≤ K) → mEs (d - 1) 226 o g226 (14, [some (.ref o), some (.int (nI t)), some (.int (nI k + (-1)))], [], m') Q) →
      mEs (d - 1) 226 o g226 (14, [some (.ref o), some (.int (nI t)), some (.int (nI k))], [], m1) Q := by
    intro r
    induction r with
    | zero => intro k C _ h; omega
    | succ r ih =>
      intro k C hkn _ hV q
      induction q with
      | zero =>
        intro c m1 B hq S1 B1 g1 z39 zc cont
        have T1 := S1.1
        have i3 : mIn (nI k) 3 = true := (nIin_iff (by omega)).mpr (by omega)
        refine bk226_14 T1.wt (T1.ob hO) ?_
        rw [nI_clamp (n := k) (by omega), zc, S1.2.1, nIle0 (by omega)]
        refine ⟨fun z => absurd z (nI_nlt0 (by omega)), fun _ => ⟨fun z => by omega, fun _ => ⟨i3, i3, ?_⟩⟩⟩
        rintro m2 rfl
        refine ⟨i3, fun z => absurd ?_ z, fun _ => ?_⟩
        · rw [rdI_same, up_s, iF_I, (fC S1).1, show c = uC U by omega]
        · rintro v rfl
          refine cont _ B S1.sI B1.sI g1 (Nat.le_refl _) (fun i hi => by rw [rdI_same, up_n (by omega)]; exact z39 i hi) (fun K _ _ _ ⟨D, d1, _, _, d4⟩ => ?_)
          have := (d1 k (by omega)).1
          omega
      | succ q ihq =>
        intro c m1 B hq S1 B1 g1 z39 zc cont
        have T1 := S1.1
        have i3 : mIn (nI k) 3 = true := (nIin_iff (by omega)).mpr (by omega)
        refine bk226_14 T1.wt (T1.ob hO) ?_
        rw [nI_clamp (n := k) (by omega), zc, S1.2.1, nIle0 (by omega)]
        refine ⟨fun z => absurd z (nI_nlt0 (by omega)), fun _ => ⟨fun z => by omega, fun _ => ⟨i3, i3, ?_⟩⟩⟩
        intro m2 h2
        have S2 : stC P tk t o m m2 := by rw [h2]; exact S1.sI
        have B2 : bsR P tk m2 o B := by rw [h2]; exact B1.sI
        have y39 : ∀ i, i < k → m2.2.2.1 (64 * o + 39) i = nI (C i) := fun i hi => by rw [h2, rdI_same, up_n (by omega)]; exact z39 i hi
        have yk : m2.2.2.1 (64 * o + 39) k = nI c := by rw [h2, rdI_same, up_s]
        clear h2
        have T2 := S2.1
        rw [yk, (fC S2).1, nIeq (by omega) (by omega)]
        refine ⟨i3, fun _ => ⟨i3, ?_⟩, fun z => absurd (show ¬ c = uC U by omega) z⟩
        refine ev_canChoose (C := C) (by omega) T2.wt (T2.ob hO) hG (fE S2) (fC S2) hP10 h3 S2.2.2 (by omega) (by omega) (fun i hi => ⟨y39 i hi, (hV i hi).1⟩) ?_
        refine bk226_65 T2.wt (T2.ob hO) ?_
        rw [bz_0, S2.2.1, nIinc, nIeq (by omega) (by omega)]
        -- the next one
        have next : ∀ m3 B3, stC P tk t o m m3 → bsR P tk m3 o B3 → gdB P T tk pt mk U t B3 → B3 ≤ B → (∀ i, i < k → m3.2.2.1 (64 * o + 39) i = nI (C i)) → m3.2.2.1 (64 * o + 39) k = nI c → (∀ K, uCd P T tk pt mk U K → kTr K = t → ¬ uThK P tk U K → (∃ D, mVt P tk pt mk U t D (tnS P tk t) ∧ prm (tnS P tk t) D (kAt K) ∧ (∀ i, i < k → D i = C i) ∧ c = D k) → B3 ≤ K) → mEs (d - 1) 226 o g226 (14, [some (.ref o), some (.int (nI t)), some (.int (nI k))], [], m3) Q := by
          intro m3 B3 S3 R3 g3 l3 x39 xk all
          refine ihq (c + 1) m3 B3 (by omega) S3 R3 g3 x39 (by rw [xk, nIinc]) ?_
          intro m4 B4 S4 R4 g4 l4 w39 all4
          refine cont m4 B4 S4 R4 g4 (by omega) w39 (fun K k1 k2 k3 ⟨D, d1, d2, d3, d4⟩ => ?_)
          by_cases e : c = D k
          · have := all K k1 k2 k3 ⟨D, d1, d2, d3, e⟩
            omega
          · exact all4 K k1 k2 k3 ⟨D, d1, d2, d3, by omega⟩
        refine ⟨fun z => ?_, fun z => ?_⟩
        · refine next m2 B S2 B2 g1 (Nat.le_refl _) y39 yk (fun K _ _ _ ⟨D, d1, _, d3, d4⟩ => absurd ?_ z)
          have := (d1 k (by omega)).2
          rw [← d4] at this
          exact mCh_cg d3 this
        · have z := Classical.not_not.mp z
          have V2 := mVt_up hV (show c < uC U by omega) z
          have e39 : ∀ m3 : mMem, (∀ i, i < k → m3.2.2.1 (64 * o + 39) i = nI (C i)) → m3.2.2.1 (64 * o + 39) k = nI c → ∀ i, i < k + 1 → m3.2.2.1 (64 * o + 39) i = nI (updN C k c i) := by
            intro m3 a1 a2 i hi
            by_cases w : i = k
            · rw [w, updN_s]; exact a2
            · rw [updN_n w]; exact a1 i (by omega)
          have b39 : ∀ m3 : mMem, (∀ i, i < k + 1 → m3.2.2.1 (64 * o + 39) i = nI (updN C k c i)) → (∀ i, i < k → m3.2.2.1 (64 * o + 39) i = nI (C i)) ∧ m3.2.2.1 (64 * o + 39) k = nI c := by
            intro m3 a1
            refine ⟨fun i hi => ?_, ?_⟩
            · have := a1 i (by omega)
              rw [updN_n (by omega)] at this
              exact this
            · have := a1 k (by omega)
              rw [updN_s] at this
              exact this
          have same : ∀ D : Nat → Nat, (∀ i, i < k → D i = C i) → c = D k → ∀ i, i < k + 1 → D i = updN C k c i := by
            intro D a1 a2 i hi
            by_cases w : i = k
            · rw [w, updN_s]; exact a2.symm
            · rw [updN_n w]; exact a1 i (by omega)
          refine ⟨fun y => ?_, fun y => ?_⟩
          · rintro v rfl
            rw [nI_clamp (by omega)]
            refine ⟨(nIin_iff (by omega)).mpr (by omega), ?_⟩
            intro m3 h3'
            have S3 : stC P tk t o m m3 := by rw [h3']; exact S2.sI
            have B3 : bsR P tk m3 o B := by rw [h3']; exact B2.sI
            have x39 := e39 m3 (fun i hi => by rw [h3', rdI_same, up_n (by omega)]; exact y39 i hi) (by rw [h3', rdI_same, up_n (by omega)]; exact yk)
            have xk : m3.2.2.1 (64 * o + 39) (k + 1) + 1 = nI 0 := by rw [h3', rdI_same, up_s]; rfl
            clear h3'
            refine ih (k + 1) (updN C k c) (by omega) (by omega) V2 (uC U) 0 m3 B (by omega) S3 B3 g1 x39 xk ?_
            intro m4 B4 S4 R4 g4 l4 w39 all4
            rw [nIdec' (by omega), show k + 1 - 1 = k by omega]
            obtain ⟨v1, v2⟩ := b39 m4 w39
            exact next m4 B4 S4 R4 g4 l4 v1 v2 (fun K k1 k2 k3 ⟨D, d1, d2, d3, d4⟩ => all4 K k1 k2 k3 ⟨D, d1, d2, same D d3 d4, Nat.zero_le _⟩)
          · have y := Classical.not_not.mp y
            have x39 := e39 m2 y39 yk
            rw [y] at V2 x39
            refine ev_look (C := updN C k c) (by omega) T2.wt (T2.ob hO) hG (fE S2) (fC S2) hT10 ht (by omega) h3 S2.2.1 V2 x39 B2 g1 ?_
            intro m4 B4 t4 R4 g4 l4 all4
            have S4 := S2.lk t4
            refine bk226_83 S4.1.wt (S4.1.ob hO) ?_
            refine next m4 B4 S4 R4 g4 l4 (fun i hi => ?_) ?_ (fun K k1 k2 k3 ⟨D, d1, d2, d3, d4⟩ => all4 K k1 k2 (prm_cg (fun i hi => same D d3 d4 i (by omega)) d2) k3)
            · rw [t4.i (fun z => by unfold lkA at z; omega)]; exact y39 i hi
            · rw [t4.i (fun z => by unfold lkA at z; omega)]; exact yk
  refine mEv.at (by omega) G226 (Nat.le_of_ble_eq_true rfl) ?_
  refine bk226_0 hT hO ?_
  refine ev_layWants (by omega) hT hO hN hP10 (by omega) h3 ?_
  intro m1 t1 z60 z38
  have T1 : mTo (csA o) (csF o) m m1 := t1.mono (fun _ z => by unfold lwA at z; unfold csA; omega) (fun k f z => by unfold lwF at z; unfold csF; omega)
  have S1 : stC P tk t o m m1 := ⟨T1, z60, z38⟩
  have B1 : bsR P tk m1 o B := by
    obtain ⟨b1, b2, b3⟩ := hB
    refine ⟨by rw [t1.nf (fun z => by unfold lwF at z; omega)]; exact b1, fun e => by rw [t1.nf (fun z => by unfold lwF at z; omega)]; exact b2 e, fun e => ⟨by rw [t1.nf (fun z => by unfold lwF at z; omega)]; exact (b3 e).1, fun i hi => ?_⟩⟩
    rw [t1.i (fun z => by unfold lwA at z; omega)]; exact (b3 e).2 i hi
  refine bk226_5 T1.wt (T1.ob hO) ⟨by decide, ?_⟩
  intro m2 h2
  have e0 : (0 : Int32).toNatClampNeg = 0 := rfl
  rw [e0] at h2
  have S2 : stC P tk t o m m2 := by rw [h2]; exact S1.sI
  have B2 : bsR P tk m2 o B := by rw [h2]; exact B1.sI
  have xk : m2.2.2.1 (64 * o + 39) 0 + 1 = nI 0 := by rw [h2, rdI_same, up_s]; rfl
  clear h2
  by_cases h0 : tnS P tk t = 0
  · refine bk226_14 S2.1.wt (S2.1.ob hO) ⟨fun z => absurd z (by decide), fun _ => ⟨fun _ => ?_, fun z => absurd ?_ z⟩⟩
    · refine hQ m2 B S2.1 B2 hg (Nat.le_refl _) (fun K k1 k2 _ => ?_)
      have := k1.2.2.1.1.1
      rw [k2] at this
      omega
    · rw [S2.2.1, h0]; decide
  · refine lv (tnS P tk t) 0 (fun _ => 0) (by omega) (by omega) (fun k hk => by omega) (uC U) 0 m2 B (by omega) S2 B2 hg (fun i hi => by omega) xk ?_
    intro m4 B4 S4 R4 g4 l4 _ all4
    refine bk226_14 S4.1.wt (S4.1.ob hO) ⟨fun _ => ?_, fun z => absurd (show nI 0 + (-1) < 0 by decide) z⟩
    refine hQ m4 B4 S4.1 R4 g4 l4 (fun K k1 k2 k3 => ?_)
    obtain ⟨D, d1, d2⟩ := cd_vt k1 hG k2 h3
    exact all4 K k1 k2 k3 ⟨D, d1, d2, fun i hi => by omega, Nat.zero_le _⟩
end MUN6
