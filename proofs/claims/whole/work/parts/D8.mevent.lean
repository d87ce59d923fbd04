/-! The model's unfolding: an event comes (first half). -/
def auA (o k : Nat) : Prop := 64 * o + 28 ≤ k ∧ k ≤ 64 * o + 38
def auF (o k f : Nat) : Prop := k = o ∧ (f = 46 ∨ f = 47 ∨ f = 55 ∨ f = 60)
def meH (P : Nat) (tk : Nat → Nat → Nat) (m : mMem) (o : Nat) (W : uS) (N : Nat) : Prop := ∀ f, f < N → m.2.2.1 (64 * o + 28) f = nI (uBy W f) ∧ m.2.2.1 (64 * o + 31) f = nI (uPa W f) ∧ m.2.2.1 (64 * o + 30) f = nI (tnS P tk (uBy W f)) ∧ ∀ i, i < tnS P tk (uBy W f) → m.2.2.1 (64 * o + 29) (3 * f + i) = nI (uHs W f i)
def meL (P : Nat) (tk pt : Nat → Nat → Nat) (mk : Nat → Nat) (m : mMem) (o : Nat) (W : uS) (N : Nat) : Prop := ∀ f, f < N → ∀ p, p < P → m.2.2.1 (64 * o + 33) (10 * f + p) = uLf tk pt mk W f p
def meX (P : Nat) (tk pt : Nat → Nat → Nat) (mk : Nat → Nat) (m : mMem) (o : Nat) (W : uS) (N : Nat) : Prop := ∀ f, f < N → m.2.2.1 (64 * o + 32) f = bz (uCu P tk pt mk W f)
def meG (P : Nat) (tk : Nat → Nat → Nat) (m : mMem) (o : Nat) (W : uS) (N : Nat) : Prop := ∀ f, f < N → m.2.2.1 (64 * o + 34) f = nI (bs (uAg (tnS P tk) W f) 31)
/-- while the event's own rows are laid -/
def aeS (P : Nat) (tk pt : Nat → Nat → Nat) (mk : Nat → Nat) (m : mMem) (o : Nat) (U : uS) (K : Nat) : Prop := meR P tk pt mk m o U ∧ m.2.2.1 (64 * o + 28) (uE U) = nI (kTr K) ∧ m.2.2.1 (64 * o + 30) (uE U) = nI (tnS P tk (kTr K)) ∧ iF m o 60 = nI (tnS P tk (kTr K)) ∧ iF m o 63 = nI (kTr K) ∧ iF m o 46 = 0 ∧ ∀ j, j < tnS P tk (kTr K) → m.2.2.1 (64 * o + 40) j = nI (kAt K j)
theorem wr_ne {m : mMem} {a b x y : Nat} {v : Int32} (h : b ≠ a ∨ y ≠ x) : (mSetI m a (upd (m.2.2.1 a) x v)).2.2.1 b y = m.2.2.1 b y := by
  by_cases e : b = a
  · subst e
    rw [rdI_same, up_n (h.elim (fun h => absurd rfl h) id)]
  · rw [rdI_ne e]
theorem wr_eq {m : mMem} {a x : Nat} {v : Int32} : (mSetI m a (upd (m.2.2.1 a) x v)).2.2.1 a x = v := by rw [rdI_same, up_s]
section MUN8
variable {P T d o K N : Nat} {tk pt : Nat → Nat → Nat} {fi mk : Nat → Nat} {U W : uS} {m m1 : mMem} {Q : Option Value → mMem → Prop}
theorem meR.wr (h : meR P tk pt mk m o U) (hP : P ≤ 10) (h3 : ∀ f, f < uE U → tnS P tk (uBy U f) ≤ 3) {j x : Nat} {v : Int32} (hx : j < 28 ∨ 34 < j ∨ (j ≠ 29 ∧ j ≠ 33 ∧ uE U ≤ x) ∨ (j = 29 ∧ 3 * uE U ≤ x) ∨ (j = 33 ∧ 10 * uE U ≤ x)) : meR P tk pt mk (mSetI m (64 * o + j) (upd (m.2.2.1 (64 * o + j)) x v)) o U := by
  obtain ⟨a1, a2⟩ := h
  refine ⟨a1, fun e he => ?_⟩
  obtain ⟨b1, b2, b3, b4, b5, b6, b7⟩ := a2 e he
  have := h3 e he
  refine ⟨by rw [wr_ne (by omega)]; exact b1, by rw [wr_ne (by omega)]; exact b2, by rw [wr_ne (by omega)]; exact b3, by rw [wr_ne (by omega)]; exact b4, fun i hi => by rw [wr_ne (by omega)]; exact b5 i hi, fun p hp => by rw [wr_ne (by omega)]; exact b6 p hp, by rw [wr_ne (by omega)]; exact b7⟩
theorem mcR.wr {tn : Nat → Nat} (h : mcR tn m o U) {j x : Nat} {v : Int32} (hx : j < 35 ∨ 37 < j ∨ uC U ≤ x) : mcR tn (mSetI m (64 * o + j) (upd (m.2.2.1 (64 * o + j)) x v)) o U := by
  obtain ⟨a1, a2⟩ := h
  refine ⟨a1, fun c hc => ?_⟩
  obtain ⟨b1, b2, b3⟩ := a2 c hc
  exact ⟨by rw [wr_ne (by omega)]; exact b1, by rw [wr_ne (by omega)]; exact b2, by rw [wr_ne (by omega)]; exact b3⟩
theorem aeS.wr (h : aeS P tk pt mk m o U K) (hP : P ≤ 10) (h3 : ∀ f, f < uE U → tnS P tk (uBy U f) ≤ 3) {j x : Nat} {v : Int32} (hx : (j = 29 ∧ 3 * uE U ≤ x) ∨ ((j = 31 ∨ j = 34) ∧ uE U ≤ x) ∨ j = 37) : aeS P tk pt mk (mSetI m (64 * o + j) (upd (m.2.2.1 (64 * o + j)) x v)) o U K := by
  obtain ⟨a1, a2, a3, a4, a5, a6, a7⟩ := h
  exact ⟨a1.wr hP h3 (by omega), by rw [wr_ne (by omega)]; exact a2, by rw [wr_ne (by omega)]; exact a3, a4, a5, a6, fun i hi => by rw [wr_ne (by omega)]; exact a7 i hi⟩
/-- the rows of the event: what it has, its past, what it is against -/
theorem ae_a (hd : 1 ≤ d) (hO : m.1 o = some (.inr 8) ∧ o ≠ 0) (hP : P ≤ 10) (hn9 : ∀ t, t < T → tnS P tk t ≤ 3) (hG : uGd P T tk U) (hE : uE U < 30) (hK : uCd P T tk pt mk U K) (x3 x4 : Option Value)
    (hQ : ∀ m', mTo (auA o) (auF o) m m' → aeS P tk pt mk m' o U K → mcR (tnS P tk) m' o U → m'.2.2.1 (64 * o + 31) (uE U) = nI (2 ^ uE U ||| uUn U (kAt K) (tnS P tk (kTr K))) → m'.2.2.1 (64 * o + 34) (uE U) = nI (orS (fun j => bs (uHb (tnS P tk) U (kAt K j)) 31) (tnS P tk (kTr K))) → (∀ j, j < tnS P tk (kTr K) → m'.2.2.1 (64 * o + 29) (3 * uE U + j) = nI (kAt K j)) → mEs d 235 o g235 (122, [some (.ref o), some (.int (nI (uE U))), some (.int 0), x3, x4], [], m') Q) :
    ∀ r i m1, r + i = tnS P tk (kTr K) → mTo (auA o) (auF o) m m1 → aeS P tk pt mk m1 o U K → mcR (tnS P tk) m1 o U → m1.2.2.1 (64 * o + 31) (uE U) = nI (2 ^ uE U ||| uUn U (kAt K) i) → m1.2.2.1 (64 * o + 34) (uE U) = nI (orS (fun j => bs (uHb (tnS P tk) U (kAt K j)) 31) i) → (∀ j, j < i → m1.2.2.1 (64 * o + 29) (3 * uE U + j) = nI (kAt K j)) → mEs d 235 o g235 (51, [some (.ref o), some (.int (nI (uE U))), some (.int (nI i)), x3, x4], [], m1) Q := by
  have h80 := hG.2.2.1
  have ht3 := hn9 _ hK.1
  have h3 : ∀ f, f < uE U → tnS P tk (uBy U f) ≤ 3 := fun f hf => hn9 _ (hG.2.2.2.2 f hf)
  intro r
  induction r with
  | zero =>
    intro i m1 hi T1 S1 C1 e31 e34 e29
    obtain rfl : i = tnS P tk (kTr K) := by omega
    refine bk235_51 T1.wt (T1.ob hO) ?_
    rw [S1.2.2.2.1]
    exact ⟨fun _ => hQ m1 T1 S1 C1 e31 e34 e29, fun z => absurd ((nIle (by omega) (by omega)).mpr (Nat.le_refl _)) z⟩
  | succ r ih =>
    intro i m1 hi T1 S1 C1 e31 e34 e29
    have iE : mIn (nI (uE U)) 31 = true := (nIin_iff (by omega)).mpr (by omega)
    have i3 : mIn (nI i) 3 = true := (nIin_iff (by omega)).mpr (by omega)
    have hAi := hK.2.2.1.1.2.1 i (by omega)
    refine bk235_51 T1.wt (T1.ob hO) ?_
    rw [S1.2.2.2.1, nIle (by omega) (by omega), n3x, nI_add, nI_clamp (n := i) (by omega), nI_clamp (n := 3 * uE U + i) (by omega), nI_clamp (n := uE U) (by omega), S1.2.2.2.2.2.2 i (by omega)]
    refine ⟨fun z => by omega, fun _ => ⟨i3, (nIin_iff (by omega)).mpr (by omega), ?_⟩⟩
    intro m2 h2
    have T2 : mTo (auA o) (auF o) m m2 := by rw [h2]; exact T1.sI (by unfold auA; omega)
    have S2 : aeS P tk pt mk m2 o U K := by rw [h2]; exact S1.wr hP h3 (by omega)
    have C2 : mcR (tnS P tk) m2 o U := by rw [h2]; exact C1.wr (by omega)
    have f31 : m2.2.2.1 (64 * o + 31) (uE U) = nI (2 ^ uE U ||| uUn U (kAt K) i) := by rw [h2, wr_ne (by omega)]; exact e31
    have f34 : m2.2.2.1 (64 * o + 34) (uE U) = nI (orS (fun j => bs (uHb (tnS P tk) U (kAt K j)) 31) i) := by rw [h2, wr_ne (by omega)]; exact e34
    have f29 : ∀ j, j < i + 1 → m2.2.2.1 (64 * o + 29) (3 * uE U + j) = nI (kAt K j) := by
      intro j hj
      rw [h2]
      by_cases w : j = i
      · rw [w, wr_eq]
      · rw [wr_ne (by omega)]; exact e29 j (by omega)
    clear h2
    rw [S2.2.2.2.2.2.2 i (by omega), f31]
    refine ⟨iE, i3, ?_⟩
    refine ev_mpast (by omega) T2.wt (T2.ob hO) hG S2.1 C2 hAi ?_
    refine bk235_92 T2.wt (T2.ob hO) (T2.wt.arr (T2.ob hO) 30 rfl (by decide)) ?_
    rw [nI_clamp (n := uE U) (by omega), or_n]
    refine ⟨iE, ?_⟩
    intro m3 h3'
    have T3 : mTo (auA o) (auF o) m m3 := by rw [h3']; exact T2.sI (by unfold auA; omega)
    have S3 : aeS P tk pt mk m3 o U K := by rw [h3']; exact S2.wr hP h3 (by omega)
    have C3 : mcR (tnS P tk) m3 o U := by rw [h3']; exact C2.wr (by omega)
    have g31 : m3.2.2.1 (64 * o + 31) (uE U) = nI (2 ^ uE U ||| uUn U (kAt K) (i + 1)) := by
      rw [h3', wr_eq, Nat.or_assoc]
      rfl
    have g34 : m3.2.2.1 (64 * o + 34) (uE U) = nI (orS (fun j => bs (uHb (tnS P tk) U (kAt K j)) 31) i) := by rw [h3', wr_ne (by omega)]; exact f34
    have g29 : ∀ j, j < i + 1 → m3.2.2.1 (64 * o + 29) (3 * uE U + j) = nI (kAt K j) := fun j hj => by rw [h3', wr_ne (by omega)]; exact f29 j hj
    clear h3'
    rw [nI_clamp (n := i) (by omega), S3.2.2.2.2.2.2 i (by omega), nI_clamp (n := kAt K i) (by omega), (C3.2 _ hAi).2.2, g34, or_n]
    refine ⟨iE, i3, (nIin_iff (by omega)).mpr (by omega), iE, ?_⟩
    rintro m4 rfl v rfl
    rw [nIinc]
    refine ih (i + 1) _ (by omega) (T3.sI (by unfold auA; omega)) (S3.wr hP h3 (by omega)) (C3.wr (by omega)) ?_ ?_ ?_
    · rw [wr_ne (by omega)]; exact g31
    · rw [wr_eq]; rfl
    · intro j hj
      rw [wr_ne (by omega)]; exact g29 j hj
/-- the conditions are had by it -/
theorem ae_b (hO : m.1 o = some (.inr 8) ∧ o ≠ 0) (hP : P ≤ 10) (hn9 : ∀ t, t < T → tnS P tk t ≤ 3) (hG : uGd P T tk U) (hE : uE U < 30) (hK : uCd P T tk pt mk U K) (x3 x4 : Option Value)
    (hQ : ∀ m', mTo (auA o) (auF o) m m' → aeS P tk pt mk m' o U K → iF m' o 55 = nI (uC U) → (∀ c, c < uC U → m'.2.2.1 (64 * o + 35) c = nI (uPl U c) ∧ m'.2.2.1 (64 * o + 36) c = ogV (uOr U c) ∧ m'.2.2.1 (64 * o + 37) c = nI (bs (fun f => uHb (tnS P tk) U c f ∨ (f = uE U ∧ ∃ j, j < tnS P tk (kTr K) ∧ kAt K j = c)) 31)) → (∀ k x, k ≠ 64 * o + 37 → m'.2.2.1 k x = m1.2.2.1 k x) → mEs d 235 o g235 (155, [some (.ref o), some (.int (nI (uE U))), some (.int 0), x3, x4], [], m') Q) :
    ∀ r i m2, r + i = tnS P tk (kTr K) → mTo (auA o) (auF o) m m2 → aeS P tk pt mk m2 o U K → iF m2 o 55 = nI (uC U) → (∀ c, c < uC U → m2.2.2.1 (64 * o + 35) c = nI (uPl U c) ∧ m2.2.2.1 (64 * o + 36) c = ogV (uOr U c) ∧ m2.2.2.1 (64 * o + 37) c = nI (bs (fun f => uHb (tnS P tk) U c f ∨ (f = uE U ∧ ∃ j, j < i ∧ kAt K j = c)) 31)) → (∀ k x, k ≠ 64 * o + 37 → m2.2.2.1 k x = m1.2.2.1 k x) → mEs d 235 o g235 (122, [some (.ref o), some (.int (nI (uE U))), some (.int (nI i)), x3, x4], [], m2) Q := by
  have h80 := hG.2.2.1
  have ht3 := hn9 _ hK.1
  have h3 : ∀ f, f < uE U → tnS P tk (uBy U f) ≤ 3 := fun f hf => hn9 _ (hG.2.2.2.2 f hf)
  intro r
  induction r with
  | zero =>
    intro i m2 hi T2 S2 e55 rw2 fr2
    obtain rfl : i = tnS P tk (kTr K) := by omega
    refine bk235_122 T2.wt (T2.ob hO) ?_
    rw [S2.2.2.2.1]
    exact ⟨fun _ => hQ m2 T2 S2 e55 rw2 fr2, fun z => absurd ((nIle (by omega) (by omega)).mpr (Nat.le_refl _)) z⟩
  | succ r ih =>
    intro i m2 hi T2 S2 e55 rw2 fr2
    have hAi := hK.2.2.1.1.2.1 i (by omega)
    obtain ⟨q1, q2, q3⟩ := rw2 _ hAi
    refine bk235_122 T2.wt (T2.ob hO) ?_
    rw [S2.2.2.2.1, nIle (by omega) (by omega), nI_clamp (n := i) (by omega), S2.2.2.2.2.2.2 i (by omega), nI_clamp (n := kAt K i) (by omega), q3, shl1 (by omega), or_n]
    refine ⟨fun z => by omega, fun _ => ⟨(nIin_iff (by omega)).mpr (by omega), (nIin_iff (by omega)).mpr (by omega), (nIin_iff (by omega)).mpr (by omega), ?_⟩⟩
    rintro m3 rfl v rfl
    rw [nIinc]
    refine ih (i + 1) _ (by omega) (T2.sI (by unfold auA; omega)) (S2.wr hP h3 (by omega)) e55 (fun c hc => ?_) (fun k x hk => by rw [wr_ne (Or.inl hk)]; exact fr2 k x hk)
    obtain ⟨p1, p2, p3⟩ := rw2 c hc
    refine ⟨by rw [wr_ne (by omega)]; exact p1, by rw [wr_ne (by omega)]; exact p2, ?_⟩
    by_cases w : c = kAt K i
    · subst w
      rw [wr_eq]
      congr 1
      refine tb_ext fun f => ?_
      rw [bor, bs_tb, bs_tb, Nat.testBit_two_pow, decide_eq_true_eq]
      constructor
      · rintro (⟨a1, a2 | ⟨a2, j, a3, a4⟩⟩ | a)
        · exact ⟨a1, Or.inl a2⟩
        · exact ⟨a1, Or.inr ⟨a2, j, by omega, a4⟩⟩
        · exact ⟨by omega, Or.inr ⟨a.symm, i, by omega, rfl⟩⟩
      · rintro ⟨a1, a2 | ⟨a2, _⟩⟩
        · exact Or.inl ⟨a1, Or.inl a2⟩
        · exact Or.inr a2.symm
    · rw [wr_ne (Or.inr w), p3]
      congr 1
      refine bs_cg fun f _ => or_congr Iff.rfl (and_congr Iff.rfl ⟨fun ⟨j, a1, a2⟩ => ⟨j, by omega, a2⟩, fun ⟨j, a1, a2⟩ => ⟨j, ?_, a2⟩⟩)
      refine Nat.lt_of_not_le fun z => w ?_
      rw [← a2, show j = i by omega]
end MUN8
