/-! The model's unfolding: conditions chosen are an event; it is held against the best so far. -/
def mVt (P : Nat) (tk pt : Nat → Nat → Nat) (mk : Nat → Nat) (U : uS) (t : Nat) (C : Nat → Nat) (n : Nat) : Prop := ∀ k, k < n → C k < uC U ∧ mCh P tk pt mk U t C k (C k)
def bsR (P : Nat) (tk : Nat → Nat → Nat) (m : mMem) (o B : Nat) : Prop := iF m o 64 = nI (kSz B) ∧ (B = 1073741824 → iF m o 63 = -1) ∧ (B < 1073741824 → iF m o 63 = nI (kTr B) ∧ ∀ i, i < tnS P tk (kTr B) → m.2.2.1 (64 * o + 40) i = nI (kAt B i))
def gdB (P T : Nat) (tk pt : Nat → Nat → Nat) (mk : Nat → Nat) (U : uS) (t B : Nat) : Prop := B = 1073741824 ∨ (B < 1073741824 ∧ uCd P T tk pt mk U B ∧ ¬ uThK P tk U B ∧ kTr B ≤ t)
def lkA (o k : Nat) : Prop := k = 64 * o + 40 ∨ k = 64 * o + 41
def lkF (o k f : Nat) : Prop := k = o ∧ (f = 63 ∨ f = 64)
section LEX
variable {n K B : Nat}
theorem lex_lt (hs : kSz K = kSz B) (ht : kTr K = kTr B) (hn : n ≤ 3) (h : lexL n (kAt K) (kAt B)) : K < B := by
  unfold kSz at hs
  unfold kTr at ht
  obtain ⟨i, hi, h1, h2⟩ := h
  rcases (show i = 0 ∨ i = 1 ∨ i = 2 by omega) with e | e | e
  · subst e
    have a : K / 16384 % 128 < B / 16384 % 128 := h2
    omega
  · subst e
    have a0 : K / 16384 % 128 = B / 16384 % 128 := h1 0 (by omega)
    have a : K / 128 % 128 < B / 128 % 128 := h2
    omega
  · subst e
    have a0 : K / 16384 % 128 = B / 16384 % 128 := h1 0 (by omega)
    have a1 : K / 128 % 128 = B / 128 % 128 := h1 1 (by omega)
    have a : K % 128 < B % 128 := h2
    omega
theorem lex_ge (hs : kSz K = kSz B) (ht : kTr K = kTr B) (hK : ∀ i, n ≤ i → kAt K i = 0) (hB : ∀ i, n ≤ i → kAt B i = 0) (h : ¬ lexL n (kAt K) (kAt B)) : B ≤ K := by
  refine Nat.le_of_not_lt fun q => h ?_
  have z : ∀ i, kAt K i ≠ kAt B i → i < n := fun i w => Nat.lt_of_not_le fun g => w (by rw [hK i g, hB i g])
  have e0 : kAt K 0 = K / 16384 % 128 := rfl
  have e1 : kAt K 1 = K / 128 % 128 := rfl
  have e2 : kAt K 2 = K % 128 := rfl
  have f0 : kAt B 0 = B / 16384 % 128 := rfl
  have f1 : kAt B 1 = B / 128 % 128 := rfl
  have f2 : kAt B 2 = B % 128 := rfl
  unfold kSz at hs
  unfold kTr at ht
  by_cases w0 : kAt K 0 = kAt B 0
  · by_cases w1 : kAt K 1 = kAt B 1
    · refine ⟨2, z 2 (by omega), fun j hj => ?_, by omega⟩
      rcases (show j = 0 ∨ j = 1 by omega) with e | e
      · rw [e]; exact w0
      · rw [e]; exact w1
    · refine ⟨1, z 1 w1, fun j hj => ?_, by omega⟩
      rw [show j = 0 by omega]; exact w0
  · exact ⟨0, z 0 w0, fun j hj => by omega, by omega⟩
end LEX
section MUN4
variable {P T d o t n B : Nat} {tk pt : Nat → Nat → Nat} {fi mk : Nat → Nat} {A C : Nat → Nat} {U : uS} {m m' : mMem} {Q : Option Value → mMem → Prop} {X : Nat → Prop} {F : Nat → Nat → Prop}
theorem meR.to (h : meR P tk pt mk m o U) (ht : mTo X F m m') (h1 : ∀ i, 28 ≤ i → i ≤ 34 → ¬ X (64 * o + i)) (h2 : ¬ F o 47) : meR P tk pt mk m' o U := by
  unfold meR at h ⊢
  rw [ht.nf h2, ht.i (h1 28 (by omega) (by omega)), ht.i (h1 29 (by omega) (by omega)), ht.i (h1 30 (by omega) (by omega)), ht.i (h1 31 (by omega) (by omega)), ht.i (h1 32 (by omega) (by omega)), ht.i (h1 33 (by omega) (by omega)), ht.i (h1 34 (by omega) (by omega))]
  exact h
theorem mcR.to {tn : Nat → Nat} (h : mcR tn m o U) (ht : mTo X F m m') (h1 : ∀ i, 35 ≤ i → i ≤ 37 → ¬ X (64 * o + i)) (h2 : ¬ F o 55) : mcR tn m' o U := by
  unfold mcR at h ⊢
  rw [ht.nf h2, ht.i (h1 35 (by omega) (by omega)), ht.i (h1 36 (by omega) (by omega)), ht.i (h1 37 (by omega) (by omega))]
  exact h
theorem mVt.co (h : mVt P tk pt mk U t C n) {a b : Nat} (ha : a < n) (hb : b < n) (e : C a ≠ C b) : uCo (tnS P tk) U (C a) (C b) := by
  rcases Nat.lt_trichotomy a b with g | g | g
  · exact (h b hb).2.2.2.2 a g
  · exact absurd (by rw [g]) e
  · exact ((h a ha).2.2.2.2 b g).sy
theorem mVt.ne (h : mVt P tk pt mk U t C n) : ∀ i j, i < j → j < n → C i ≠ C j := fun i j h1 h2 => ((h j h2).2.2.2.2 i h1).1
theorem un_prm {A C : Nat → Nat} (h : prm n A C) : uUn U A n = uUn U C n := tb_ext fun i => by
  unfold uUn
  rw [orS_tb, orS_tb]
  constructor
  · rintro ⟨u, hu, w⟩
    obtain ⟨j, hj, e⟩ := h.mem hu
    exact ⟨j, hj, by rw [e]; exact w⟩
  · rintro ⟨u, hu, w⟩
    obtain ⟨j, hj, e⟩ := h.sy.mem hu
    exact ⟨j, hj, by rw [e]; exact w⟩
theorem vt_cd (h : mVt P tk pt mk U t C (tnS P tk t)) (hG : uGd P T tk U) (hp : prm (tnS P tk t) A C) (hs : ∀ i j, i < j → j < tnS P tk t → A i < A j) (h0 : 0 < tnS P tk t) (h3 : tnS P tk t ≤ 3) (ht : t < T) (hT : T ≤ 10) : uCd P T tk pt mk U (kyN (pcN (uUn U C (tnS P tk t)) + 1) t (tnS P tk t) A) := by
  have lt : ∀ i, i < tnS P tk t → A i < uC U := fun i hi => by
    obtain ⟨j, hj, e⟩ := hp.mem hi
    rw [← e]; exact (h j hj).1
  refine leaf_cd (oc := uC U) ⟨lt, hs, fun i j h1 h2 => ?_, fun i hi => ?_, fun p hpP => ?_⟩ h0 h3 (Nat.le_refl _) hG.2.2.1 ht hT hG.2.2.2.1 (by rw [un_prm hp])
  · obtain ⟨a, ha, e1⟩ := hp.mem (show i < tnS P tk t by omega)
    obtain ⟨b, hb, e2⟩ := hp.mem h2
    have := hs i j h1 h2
    rw [← e1, ← e2] at this ⊢
    exact h.co ha hb (by omega)
  · obtain ⟨j, hj, e⟩ := hp.mem hi
    rw [← e]; exact (h j hj).2.2.1
  · have e1 : uCn U A (tnS P tk t) p = fb_ct (fun i => decide (uPl U (C i) = p)) (tnS P tk t) := hp (fun c => decide (uPl U c = p))
    have e2 : fb_ct (fun i => decide (uPl U (C i) = p)) (tnS P tk t) = fb_ct (fun i => decide (wnt (tk t) P i = p)) (tnS P tk t) := fb_ct_cong (fun i hi => by rw [(h i hi).2.1])
    have e3 := wnt_ct (g := tk t) P p
    rw [if_pos hpP] at e3
    have e4 : fb_ct (fun i => decide (wnt (tk t) P i = p)) (tnS P tk t) = tk t p := e3
    omega
theorem cd_vt {K : Nat} (hK : uCd P T tk pt mk U K) (hG : uGd P T tk U) (ht : kTr K = t) (h3 : tnS P tk t ≤ 3) : ∃ C, mVt P tk pt mk U t C (tnS P tk t) ∧ prm (tnS P tk t) C (kAt K) := by
  obtain ⟨k1, k2, ⟨⟨k3, k4, k5⟩, k6, k7, k8⟩, k9⟩ := hK
  rw [ht] at k2 k3 k4 k5 k6 k7 k8 k9
  have h80 := hG.2.2.1
  obtain ⟨C, c1, c2⟩ := sort_ex (key := fun c => uPl U c * 128 + c) (B := kAt K) (tnS P tk t) (fun i j h1 h2 => by
    have := k6 i j h1 h2
    have := k4 i (by omega)
    have := k4 j h2
    show uPl U (kAt K i) * 128 + kAt K i ≠ uPl U (kAt K j) * 128 + kAt K j
    omega)
  have c3 : ∀ i j, i < j → j < tnS P tk t → uPl U (C i) * 128 + C i < uPl U (C j) * 128 + C j := c2
  have lt : ∀ i, i < tnS P tk t → C i < uC U := fun i hi => by
    obtain ⟨j, hj, e⟩ := c1.mem hi
    rw [← e]; exact k4 j hj
  have wn : ∀ i, i < tnS P tk t → uPl U (C i) = wnt (tk t) P i := by
    refine mono_eq (A := fun i => uPl U (C i)) (fun v => ?_) (fun i j h1 h2 => ?_) (fun i j h1 h2 => wnt_mono P h1 h2)
    · have e1 : fb_ct (fun i => decide (uPl U (C i) = v)) (tnS P tk t) = uCn U (kAt K) (tnS P tk t) v := c1 (fun c => decide (uPl U c = v))
      have e3 : fb_ct (fun i => decide (wnt (tk t) P i = v)) (tnS P tk t) = if v < P then tk t v else 0 := wnt_ct (g := tk t) P v
      show fb_ct (fun i => decide (uPl U (C i) = v)) (tnS P tk t) = _
      rw [e1, e3]
      by_cases q : v < P
      · rw [if_pos q]; exact k8 v q
      · rw [if_neg q]
        refine fb_ct_zero.mpr (fun k hk => decide_eq_false (fun w => ?_))
        have := hG.2.2.2.1 _ (k4 k hk)
        omega
    · have := c3 i j h1 h2
      have := lt i (by omega)
      have := lt j h2
      show uPl U (C i) ≤ uPl U (C j)
      omega
  refine ⟨C, fun k hk => ⟨lt k hk, wn k hk, ?_, ?_, fun i hi => ?_⟩, c1⟩
  · obtain ⟨j, hj, e⟩ := c1.mem hk
    rw [← e]; exact k7 j hj
  · by_cases q : k = 0
    · exact Or.inl q
    · by_cases w : wnt (tk t) P (k - 1) = wnt (tk t) P k
      · refine Or.inr (Or.inr ?_)
        have e1 := wn (k - 1) (by omega)
        have e2 := wn k hk
        have := c3 (k - 1) k (by omega) hk
        omega
      · exact Or.inr (Or.inl w)
  · obtain ⟨a, ha, e1⟩ := c1.mem (show i < tnS P tk t by omega)
    obtain ⟨b, hb, e2⟩ := c1.mem hk
    have hne : C i ≠ C k := fun w => by
      have := c3 i k hi hk
      rw [w] at this
      omega
    rw [← e1, ← e2] at hne ⊢
    rcases Nat.lt_trichotomy a b with g | g | g
    · exact k5 a b g hb
    · exact absurd (by rw [g]) hne
    · exact (k5 b a g ha).sy
/-- what is chosen is one number -/
theorem vt_num {K : Nat} (hp : prm (tnS P tk t) A C) (hs : ∀ i j, i < j → j < tnS P tk t → A i < A j) (h3 : tnS P tk t ≤ 3) (hA : ∀ i, i < tnS P tk t → A i < 128) (ht : t < 16) (hK : uCd P T tk pt mk U K) (hKt : kTr K = t) (hpK : prm (tnS P tk t) C (kAt K)) : K = kyN (pcN (uUn U C (tnS P tk t)) + 1) t (tnS P tk t) A := by
  obtain ⟨k1, k2, k3, k9⟩ := hK
  rw [hKt] at k2 k3 k9
  have e := up_eq (hp.tr hpK) hs k3.2.1
  refine ky_eq ?_ ?_ (fun i hi => ?_)
  · rw [ky_s ht hA, k9, un_prm hpK]
    rfl
  · rw [ky_t ht hA, hKt]
  · rw [ky_a ht hA h3]
    by_cases q : i < tnS P tk t
    · rw [if_pos q, e i q]
    · rw [if_neg q]; exact k2 i (by omega)
end MUN4
