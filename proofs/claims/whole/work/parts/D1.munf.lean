/-! The model's unfolding: what it holds, and which conditions can hold at once. -/
def mcR (tn : Nat → Nat) (m : mMem) (o : Nat) (U : uS) : Prop := iF m o 55 = nI (uC U) ∧ ∀ c, c < uC U → m.2.2.1 (64 * o + 35) c = nI (uPl U c) ∧ m.2.2.1 (64 * o + 36) c = ogV (uOr U c) ∧ m.2.2.1 (64 * o + 37) c = nI (bs (uHb tn U c) 31)
def meR (P : Nat) (tk pt : Nat → Nat → Nat) (mk : Nat → Nat) (m : mMem) (o : Nat) (U : uS) : Prop := iF m o 47 = nI (uE U) ∧ ∀ e, e < uE U → m.2.2.1 (64 * o + 28) e = nI (uBy U e) ∧ m.2.2.1 (64 * o + 31) e = nI (uPa U e) ∧ m.2.2.1 (64 * o + 32) e = bz (uCu P tk pt mk U e) ∧ m.2.2.1 (64 * o + 30) e = nI (tnS P tk (uBy U e)) ∧ (∀ i, i < tnS P tk (uBy U e) → m.2.2.1 (64 * o + 29) (3 * e + i) = nI (uHs U e i)) ∧ (∀ p, p < P → m.2.2.1 (64 * o + 33) (10 * e + p) = uLf tk pt mk U e p) ∧ m.2.2.1 (64 * o + 34) e = nI (bs (uAg (tnS P tk) U e) 31)
theorem and0 {x y : Nat} (hx : x < 2 ^ 31) : nI x &&& nI y = 0 ↔ ∀ i, ¬ (x.testBit i = true ∧ y.testBit i = true) := by
  rw [and_n, nIeq0 (Nat.lt_of_le_of_lt Nat.and_le_left hx), and_zero]
section MUN
variable {P T d o a b c : Nat} {tk pt : Nat → Nat → Nat} {mk : Nat → Nat} {tn : Nat → Nat} {U : uS} {m : mMem} {Q : Option Value → mMem → Prop}
theorem po_lt (h : uOk tn U) (hc : c < uC U) : uPo U c < 2 ^ uE U := by
  have h1 := h.1 c hc
  unfold uPo
  by_cases q : uOr U c = 0
  · rw [if_pos q]; exact Nat.pow_pos (by decide)
  · rw [if_neg q]; exact (h.2.1 _ (by omega)).1
theorem ev_mpast (hd : 1 ≤ d) (hT : mWT m) (hO : m.1 o = some (.inr 8) ∧ o ≠ 0) (hG : uGd P T tk U) (hE : meR P tk pt mk m o U) (hC : mcR (tnS P tk) m o U) (hc : c < uC U) (hQ : Q (some (.int (nI (uPo U c)))) m) : mEv d 230 [.ref o, .int (nI c)] m Q := by
  have h80 := hG.2.2.1
  have h30 := hG.2.1
  have ho := hG.1.1 c hc
  refine mEv.at (by omega) G230 (Nat.le_of_ble_eq_true rfl) ?_
  refine bk230_0 hT hO ?_
  rw [nI_clamp (by omega), (hC.2 c hc).2.1]
  unfold uPo at hQ
  refine ⟨(nIin_iff (by omega)).mpr (by omega), fun z => ⟨(nIin_iff (by omega)).mpr (by omega), ?_⟩, fun z => ?_⟩
  · have q : uOr U c ≠ 0 := fun q => z (by rw [q]; rfl)
    have e1 : ogV (uOr U c) = nI (uOr U c - 1) := if_neg q
    rw [if_neg q] at hQ
    rw [e1, nI_clamp (by omega), (hE.2 _ (by omega)).2.1]
    exact ⟨(nIin_iff (by omega)).mpr (by omega), hQ⟩
  · have q : uOr U c = 0 := by
      refine Classical.byContradiction fun q => z ?_
      have e1 : ogV (uOr U c) = nI (uOr U c - 1) := if_neg q
      rw [e1]; exact neg1_ne (by omega)
    rw [if_pos q] at hQ
    exact hQ
theorem hb_bits (hG : uGd P T tk U) {y : Nat} : (∀ i, ¬ ((bs (uHb (tnS P tk) U c) 31).testBit i = true ∧ y.testBit i = true)) ↔ ∀ f, uHb (tnS P tk) U c f → y.testBit f = false := by
  have h30 := hG.2.1
  constructor
  · intro h f hf
    refine bno.mpr fun w => h f ⟨(bs_tb _ _ _).mpr ⟨?_, hf⟩, w⟩
    have := hf.1
    omega
  · rintro h i ⟨h1, h2⟩
    have := h i ((bs_tb _ _ _).mp h1).2
    rw [this] at h2
    cases h2
theorem ev_canHold (hd : 2 ≤ d) (hT : mWT m) (hO : m.1 o = some (.inr 8) ∧ o ≠ 0) (hG : uGd P T tk U) (hE : meR P tk pt mk m o U) (hC : mcR (tnS P tk) m o U) (ha : a < uC U) (hb : b < uC U) (hQ : Q (some (.int (bz (uCo (tnS P tk) U a b)))) m) : mEv d 229 [.ref o, .int (nI a), .int (nI b)] m Q := by
  have h80 := hG.2.2.1
  have h30 := hG.2.1
  have la := po_lt hG.1 ha
  have lb := po_lt hG.1 hb
  have p30 : 2 ^ uE U ≤ 2 ^ 30 := Nat.pow_le_pow_right (by decide) h30
  have p31 : (2 : Nat) ^ 30 < 2 ^ 31 := by decide
  have lab : uPo U a ||| uPo U b < 2 ^ 31 := by
    have := Nat.or_lt_two_pow la lb
    omega
  have bw31 : ∀ (C : Nat → Prop), bs C 31 < 2 ^ 31 := fun C => bs_lt C 31
  have bE : ∀ f, (uPo U a ||| uPo U b).testBit f = true → f < uE U := fun f z => (bor.mp z).elim (fun z => (hG.1.po ha z).2.2.2) (fun z => (hG.1.po hb z).2.2.2)
  have loop : ∀ k e (z : Int32), k + e = uE U → z = bz ((a ≠ b ∧ (∀ f, uHb (tnS P tk) U a f → (uPo U b).testBit f = false) ∧ (∀ f, uHb (tnS P tk) U b f → (uPo U a).testBit f = false)) ∧ ∀ f, f < e → (uPo U a ||| uPo U b).testBit f = true → ∀ g, (uPo U a ||| uPo U b).testBit g = true → ¬ uAg (tnS P tk) U f g) → mEs (d - 1) 229 o g229 (57, [some (.ref o), some (.int (nI a)), some (.int (nI b)), some (.int (nI (uPo U a))), some (.int (nI (uPo U b))), some (.int z), some (.int (nI (uPo U a ||| uPo U b))), some (.int (nI e))], [], m) Q := by
    intro k
    induction k with
    | zero =>
      intro e z he hz
      obtain rfl : e = uE U := by omega
      subst hz
      refine bk229_57 hT hO ?_
      rw [hE.1]
      refine ⟨fun _ => ⟨bz_01 _, ?_⟩, fun q => absurd ((nIle (by omega) (by omega)).mpr (Nat.le_refl _)) q⟩
      have : bz (uCo (tnS P tk) U a b) = bz ((a ≠ b ∧ (∀ f, uHb (tnS P tk) U a f → (uPo U b).testBit f = false) ∧ (∀ f, uHb (tnS P tk) U b f → (uPo U a).testBit f = false)) ∧ ∀ f, f < uE U → (uPo U a ||| uPo U b).testBit f = true → ∀ g, (uPo U a ||| uPo U b).testBit g = true → ¬ uAg (tnS P tk) U f g) := bz_cg ⟨fun h => ⟨⟨h.1, h.2.1, h.2.2.1⟩, fun f _ h1 g h2 => h.2.2.2 f g h1 h2⟩, fun h => ⟨h.1.1, h.1.2.1, h.1.2.2, fun f g h1 h2 => h.2 f (bE f h1) h1 g h2⟩⟩
      rw [← this]
      exact hQ
    | succ k ih =>
      intro e z he hz
      subst hz
      refine bk229_57 hT hO ?_
      rw [hE.1, nIle (by omega) (by omega), bz_0, bit_n lab (by omega), bz_0]
      refine ⟨fun q => by omega, fun _ => ⟨fun q => ⟨Or.inl q, ?_⟩, fun q => ⟨fun y => ?_, fun y => ⟨(nIin_iff (by omega)).mpr (by omega), ?_⟩⟩⟩⟩
      · rw [bz_f q]
        rw [bz_f (fun h => q ⟨⟨h.1, h.2.1, h.2.2.1⟩, fun f _ h1 g h2 => h.2.2.2 f g h1 h2⟩)] at hQ
        exact hQ
      · rintro v rfl
        rw [nIinc]
        have q := Classical.not_not.mp q
        refine ih (e + 1) 1 (by omega) (bz_t ⟨q.1, fun f hf h1 => ?_⟩).symm
        by_cases w : f = e
        · rw [w] at h1; exact absurd h1 y
        · exact q.2 f (by omega) h1
      · have q := Classical.not_not.mp q
        have y := Classical.not_not.mp y
        rw [nI_clamp (by omega), (hE.2 e (by omega)).2.2.2.2.2.2, and0 (bw31 _)]
        refine ⟨fun w => ?_, fun w => ?_⟩
        · rintro v rfl
          rw [nIinc]
          refine ih (e + 1) 0 (by omega) (bz_f (fun h => w (fun i hi => ?_))).symm
          exact h.2 e (by omega) y i hi.2 ((bs_tb _ _ _).mp hi.1).2
        · rintro v rfl
          rw [nIinc]
          have w := Classical.not_not.mp w
          refine ih (e + 1) 1 (by omega) (bz_t ⟨q.1, fun f hf h1 g h2 h3 => ?_⟩).symm
          by_cases w2 : f = e
          · rw [w2] at h3
            have := bE g h2
            exact w g ⟨(bs_tb _ _ _).mpr ⟨by omega, h3⟩, h2⟩
          · exact q.2 f (by omega) h1 g h2 h3
  refine mEv.at (by omega) G229 (Nat.le_of_ble_eq_true rfl) ?_
  refine bk229_0 hT hO ?_
  refine ev_mpast (by omega) hT hO hG hE hC ha ?_
  refine bk229_5 hT hO ?_
  refine ev_mpast (by omega) hT hO hG hE hC hb ?_
  refine bk229_11 hT hO ?_
  rw [nI_clamp (by omega), nI_clamp (by omega), (hC.2 a ha).2.2, (hC.2 b hb).2.2, nIeq (by omega) (by omega), and0 (bw31 _), and0 (bw31 _), hb_bits hG, hb_bits hG, or_n]
  have i81 : ∀ x, x < 81 → mIn (nI x) 81 = true := fun x hx => (nIin_iff (by omega)).mpr hx
  refine ⟨fun q => ?_, fun q => ⟨i81 _ (by omega), fun y => ?_, fun y => ⟨i81 _ (by omega), fun w => ?_, fun w => ?_⟩⟩⟩
  · rintro v rfl
    exact loop (uE U) 0 0 (by omega) (bz_f (fun h => h.1.1 q)).symm
  · rintro v rfl
    exact loop (uE U) 0 0 (by omega) (bz_f (fun h => y h.1.2.1)).symm
  · rintro v rfl
    exact loop (uE U) 0 0 (by omega) (bz_f (fun h => w h.1.2.2)).symm
  · rintro v rfl
    exact loop (uE U) 0 1 (by omega) (bz_t ⟨⟨q, Classical.not_not.mp y, Classical.not_not.mp w⟩, fun f hf => by omega⟩).symm
end MUN
