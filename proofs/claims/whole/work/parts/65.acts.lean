/-! Bits by their number; signs; acts that can be undone. -/
def shA (k : Nat) : Int32 := 24 - nI (8 * k)
theorem shA_s : ∀ k, k < 4 → shA k + (-8) = shA (k + 1) := by decide
theorem shA_n : ∀ k, k < 4 → shA k = nI (24 - 8 * k) := by decide
theorem shA_0 : ∀ k, k < 4 → ¬ shA k < 0 := by decide
/-- a text with four signs more, of the number n -/
def txA (tx : Nat → Nat) (len n i : Nat) : Nat := if i < len then tx i else n / 2 ^ (24 - 8 * (i - len)) % 256
theorem txA_l {tx : Nat → Nat} {len n i : Nat} (h : i < len) : txA tx len n i = tx i := if_pos h
theorem txA_n {tx : Nat → Nat} {len n k : Nat} : txA tx len n (len + k) = n / 2 ^ (24 - 8 * k) % 256 := by
  unfold txA
  rw [if_neg (by omega), Nat.add_sub_cancel_left]
theorem txA_255 {tx : Nat → Nat} {len n : Nat} (h : ∀ i, tx i ≤ 255) (i : Nat) : txA tx len n i ≤ 255 := by
  unfold txA
  split
  · exact h i
  · omega
theorem chr1 : ∀ k, k < 256 → ((nI k).toUInt32 % 65536).toInt32 = nI k := by decide +kernel
theorem chr2 : ∀ k, k < 256 → vp_nar .char (nI k) = nI k := by decide +kernel
theorem byt2 : ∀ k, k < 256 → vp_nar .byte (bI k) = bI k := by decide +kernel
theorem byt1 (x : Nat) : (nI x).toInt8.toInt32 = bI (x % 256) := by
  unfold bI
  have : (nI x).toInt8 = (nI (x % 256)).toInt8 := by
    refine Int8.toBitVec_inj.mp (BitVec.eq_of_toNat_eq ?_)
    simp [nI]
  rw [this]
section TXT
variable {d s o len : Nat} {tx : Nat → Nat} {m : mMem} {Q : Option Value → mMem → Prop}
theorem ev_addFour {n : Nat} (hd : 1 ≤ d) (hT : mWT m) (hX : cTxt m s tx len) (hn : n < 2 ^ 32)
    (hQ1 : len + 4 ≤ 240 → ∀ m', mTo (fun j => j = 64 * s + 1) (fun j f => j = s ∧ f = 0) m m' → cTxt m' s (txA tx len n) (len + 4) → Q (some (.int (nI (len + 4)))) m')
    (hQ2 : ¬ len + 4 ≤ 240 → Q (some (.int (-1))) m) : mEv d 5 [.ref s, .int (nI n)] m Q := by
  obtain ⟨hO, h0, hs, h240, h255⟩ := id hX
  refine mEv.at (by omega) G5 (Nat.le_of_ble_eq_true rfl) ?_
  refine bk5_0 hT hO ?_
  simp (disch := omega) only [forall_eq, nIle, nI_ltI, nIeq, nI_mul, nIx10, n10x, nI_add, nI_clamp, nIin_iff, nIinc, nIlt0, nIeq0, nIle0, nIle1, n1lt, n0lt, nIeq1, bz_0, Classical.not_not, h0, l4, l240]
  refine ⟨fun c => ?_, fun c => hQ2 c⟩
  refine upto (e := 4) (X := fun k => ∀ m', mTo (fun j => j = 64 * s + 1) (fun j f => j = s ∧ f = 0) m m' → cTxt m' s (txA tx len n) (len + k) → mEs (d - 1) 5 _ g5 (17, [some (.ref s), some (.int (nI n)), some (.int (shA k))], [], m') Q) ?_ ?_ 0 (Nat.zero_le _) m (mTo.rf hT) ⟨hO, h0, fun i hi => by rw [txA_l (show i < len from hi)]; exact hs i hi, h240, txA_255 h255⟩
  · intro m' T' X'
    refine bk5_17 T'.wt (T'.ob hO) ⟨fun _ => ?_, fun c2 => absurd (by decide) c2⟩
    rw [X'.2.1]
    exact hQ1 c m' T' X'
  · intro k hk ih m' T' X'
    obtain ⟨gO, g0, gs, g240, g255⟩ := id X'
    refine bk5_17 T'.wt (T'.ob hO) ⟨fun c2 => absurd c2 (shA_0 k hk), fun _ => ?_⟩
    rw [shA_s k hk, shA_n k hk, ush_n hn (by omega), show (255 : Int32) = nI (2 ^ 8 - 1) from rfl, fa_mask, chr1 _ (Nat.mod_lt _ (by decide)), chr2 _ (Nat.mod_lt _ (by decide))]
    simp (disch := omega) only [forall_eq, nIle, nI_ltI, nIeq, nI_mul, nIx10, n10x, nI_add, nI_clamp, nIin_iff, nIinc, nIlt0, nIeq0, nIle0, nIle1, n1lt, n0lt, nIeq1, bz_0, Classical.not_not, rdI_same, rdI_ne, rI_F, rI_J, rJ_F, rJ_I, rdJ_same, rdJ_ne, iF_s, iF_nf, iF_nk, iF_I, iF_J, up_s, up_n, g0]
    refine ⟨by omega, ?_⟩
    refine ih _ ((T'.sI rfl).sF hO ⟨rfl, rfl⟩ (by decide)) ⟨gO, iF_s, ?_, by omega, g255⟩
    intro i hi
    simp (disch := omega) only [forall_eq, nIle, nI_ltI, nIeq, nI_mul, nIx10, n10x, nI_add, nI_clamp, nIin_iff, nIinc, nIlt0, nIeq0, nIle0, nIle1, n1lt, n0lt, nIeq1, bz_0, Classical.not_not, rdI_same, rdI_ne, rI_F, rI_J, rJ_F, rJ_I, rdJ_same, rdJ_ne, iF_s, iF_nf, iF_nk, iF_I, iF_J, up_s, up_n]
    by_cases e : i = len + k
    · subst e; rw [up_s, txA_n]
    · rw [up_n e]; exact gs i (by omega)
theorem ev_signM {n : Nat} (hd : 1 ≤ d) (hT : mWT m) (hX : mTxt m o tx len) (hn : n < 2 ^ 32)
    (hQ1 : len + 4 ≤ 240 → ∀ m', mTo (fun j => j = 64 * o + 1) (fun j f => j = o ∧ (f = 0 ∨ f = 2)) m m' → iF m' o 0 = 0 → mTxt m' o (txA tx len n) (len + 4) → Q (some (.int (nI (len + 4)))) m')
    (hQ2 : ¬ len + 4 ≤ 240 → Q (some (.int (-1))) (mSetF m o 0 (.int 0))) : mEv d 149 [.ref o, .int (nI n)] m Q := by
  obtain ⟨hO, h0, hs, h240, h255⟩ := id hX
  refine mEv.at (by omega) G149 (Nat.le_of_ble_eq_true rfl) ?_
  refine bk149_0 hT hO ?_
  simp (disch := omega) only [forall_eq, nIle, nI_ltI, nIeq, nI_mul, nIx10, n10x, nI_add, nI_clamp, nIin_iff, nIinc, nIlt0, nIeq0, nIle0, nIle1, n1lt, n0lt, nIeq1, bz_0, Classical.not_not, rdI_same, rdI_ne, rI_F, rI_J, rJ_F, rJ_I, rdJ_same, rdJ_ne, iF_s, iF_nf, iF_nk, iF_I, iF_J, up_s, up_n, h0, l4, l240]
  refine ⟨fun c => ?_, fun c => hQ2 c⟩
  refine upto (e := 4) (X := fun k => ∀ m', mTo (fun j => j = 64 * o + 1) (fun j f => j = o ∧ (f = 0 ∨ f = 2)) m m' → iF m' o 0 = 0 → mTxt m' o (txA tx len n) (len + k) → mEs (d - 1) 149 _ g149 (22, [some (.ref o), some (.int (nI n)), some (.int (shA k))], [], m') Q) ?_ ?_ 0 (Nat.zero_le _) _ ((mTo.rf hT).sF hO ⟨rfl, Or.inl rfl⟩ (by decide)) iF_s ⟨hO, by rw [iF_nf (by decide)]; exact h0, fun i hi => by rw [txA_l (show i < len from hi)]; exact hs i hi, h240, txA_255 h255⟩
  · intro m' T' z0 X'
    refine bk149_22 T'.wt (T'.ob hO) ⟨fun _ => ?_, fun c2 => absurd (by decide) c2⟩
    rw [X'.2.1]
    exact hQ1 c m' T' z0 X'
  · intro k hk ih m' T' z0 X'
    obtain ⟨gO, g0, gs, g240, g255⟩ := id X'
    refine bk149_22 T'.wt (T'.ob hO) ⟨fun c2 => absurd c2 (shA_0 k hk), fun _ => ?_⟩
    rw [shA_s k hk, shA_n k hk, ush_n hn (by omega), byt1, byt2 _ (Nat.mod_lt _ (by decide))]
    simp (disch := omega) only [forall_eq, nIle, nI_ltI, nIeq, nI_mul, nIx10, n10x, nI_add, nI_clamp, nIin_iff, nIinc, nIlt0, nIeq0, nIle0, nIle1, n1lt, n0lt, nIeq1, bz_0, Classical.not_not, rdI_same, rdI_ne, rI_F, rI_J, rJ_F, rJ_I, rdJ_same, rdJ_ne, iF_s, iF_nf, iF_nk, iF_I, iF_J, up_s, up_n, g0]
    refine ⟨by omega, ?_⟩
    refine ih _ ((T'.sI rfl).sF hO ⟨rfl, Or.inr rfl⟩ (by decide)) (by rw [iF_nf (by decide)]; exact z0) ⟨gO, iF_s, ?_, by omega, g255⟩
    intro i hi
    simp (disch := omega) only [forall_eq, nIle, nI_ltI, nIeq, nI_mul, nIx10, n10x, nI_add, nI_clamp, nIin_iff, nIinc, nIlt0, nIeq0, nIle0, nIle1, n1lt, n0lt, nIeq1, bz_0, Classical.not_not, rdI_same, rdI_ne, rI_F, rI_J, rJ_F, rJ_I, rdJ_same, rdJ_ne, iF_s, iF_nf, iF_nk, iF_I, iF_J, up_s, up_n]
    by_cases e : i = len + k
    · subst e; rw [up_s, txA_n]
    · rw [up_n e]; exact gs i (by omega)
theorem ev_shorten {x : Int32} (hd : 1 ≤ d) (hT : mWT m) (hX : cTxt m s tx len)
    (hQ1 : ∀ j, j ≤ len → x = nI j → Q (some (.int 1)) (mSetF m s 0 (.int (nI j))))
    (hQ2 : (¬ ∃ j, j ≤ len ∧ x = nI j) → Q (some (.int 0)) m) : mEv d 7 [.ref s, .int x] m Q := by
  obtain ⟨hO, h0, hs, h240, h255⟩ := id hX
  refine mEv.at (by omega) G7 (Nat.le_of_ble_eq_true rfl) ?_
  refine bk7_0 hT hO ?_
  rw [h0]
  rcases pk_ix x (n := len + 1) (by omega) with h | h | ⟨j, hj, rfl⟩
  · refine ⟨fun _ => hQ2 ?_, fun c => absurd h c⟩
    rintro ⟨j, h1, rfl⟩
    exact nI_nlt0 (by omega) h
  · have h2 : ¬ ∃ j, j ≤ len ∧ x = nI j := by
      rintro ⟨j, h1, rfl⟩
      rw [nIle (by omega) (by omega)] at h
      omega
    refine ⟨fun _ => hQ2 h2, fun _ => ⟨fun c => ?_, fun _ => hQ2 h2⟩⟩
    rw [fa_le, nI_toInt (by omega)] at h c
    omega
  · simp (disch := omega) only [forall_eq, nIle, nI_ltI, nIeq, nI_mul, nIx10, n10x, nI_add, nI_clamp, nIin_iff, nIinc, nIlt0, nIeq0, nIle0, nIle1, n1lt, n0lt, nIeq1, bz_0, Classical.not_not]
    exact ⟨fun c => c.elim, fun _ => ⟨fun _ => hQ1 j (by omega) rfl, fun c => by omega⟩⟩
theorem ev_endM {x : Int32} (hd : 2 ≤ d) (hT : mWT m) (hX : mTxt m o tx len)
    (hQ1 : ∀ j, j ≤ len → x = nI j → Q (some (.int 1)) (mSetF (mSetF m o 0 (.int 0)) o 2 (.int (nI j))))
    (hQ2 : (¬ ∃ j, j ≤ len ∧ x = nI j) → Q (some (.int 0)) (mSetF m o 0 (.int 0))) : mEv d 150 [.ref o, .int x] m Q := by
  obtain ⟨hO, h0, hs, h240, h255⟩ := id hX
  refine mEv.at (by omega) G150 (Nat.le_of_ble_eq_true rfl) ?_
  refine bk150_0 hT hO ?_
  rintro m1 rfl
  have T1 : mTo (fun _ => False) (fun j f => j = o ∧ f = 0) m (mSetF m o 0 (.int 0)) := (mTo.rf hT).sF hO ⟨rfl, rfl⟩ (by decide)
  rw [iF_nf (by decide), h0]
  refine ev_in (by omega) T1.wt ?_
  have e : (((0 : Int64) ≤ x.toInt64) ∧ (x.toInt64 ≤ (nI len).toInt64)) ↔ ∃ j, j ≤ len ∧ x = nI j := by
    rw [nI_l (by omega), show (0 : Int64) = lN 0 from rfl, in_iff (by omega) (by omega)]
    exact ⟨fun ⟨j, _, a, b⟩ => ⟨j, a, b⟩, fun ⟨j, a, b⟩ => ⟨j, Nat.zero_le _, a, b⟩⟩
  rw [bz_cg e]
  refine bk150_16 T1.wt (T1.ob hO) ⟨fun c => ?_, fun c => ?_⟩
  · rw [bz_n0] at c
    obtain ⟨j, a, b⟩ := c
    rintro m2 rfl
    rw [b]
    exact hQ1 j a b
  · rw [Classical.not_not, bz_0] at c
    exact hQ2 c
end TXT
section BITAT
variable {d o i n x : Nat} {m : mMem} {Q : Option Value → mMem → Prop}
theorem ct_st {p : Nat → Bool} {t : Nat} (h : p t = true) : fb_ct p (t + 1) = fb_ct p t + 1 := by rw [fb_ct_succ, if_pos h]
theorem ct_sf {p : Nat → Bool} {t : Nat} (h : ¬ p t = true) : fb_ct p (t + 1) = fb_ct p t := by rw [fb_ct_succ, if_neg h]; rfl
/-- how many bits are set ahead of i -/
def ctb (x i : Nat) : Nat := fb_ct (fun j => x.testBit j) i
theorem ctb_t {x t : Nat} (h : x.testBit t = true) : ctb x (t + 1) = ctb x t + 1 := ct_st h
theorem ctb_f {x t : Nat} (h : ¬ x.testBit t = true) : ctb x (t + 1) = ctb x t := ct_sf h
theorem ctb_le (x t : Nat) : ctb x t ≤ t := fb_ct_le _ _
theorem ctb_mono (x : Nat) {a b : Nat} (h : a ≤ b) : ctb x a ≤ ctb x b := fb_ct_mono _ h
theorem ev_bitAt (hd : 1 ≤ d) (hT : mWT m) (hx : x < 2 ^ 31) (hi : i < 10) (hb : x.testBit i = true) (hc : ctb x i = n) (hQ : Q (some (.int (nI i))) m) : mEv d 33 [.int (nI x), .int (nI n)] m Q := by
  refine mEv.at (by omega) G33 (Nat.le_of_ble_eq_true rfl) ?_
  refine bk33_0 hT ?_
  have hn : n ≤ i := by rw [← hc]; exact ctb_le _ _
  refine upto (e := i) (X := fun t => mEs (d - 1) 33 _ g33 (4, [some (.int (nI x)), some (.int (nI n)), some (.int (nI (ctb x t))), some (.int (nI t))], [], m) Q) ?_ ?_ 0 (Nat.zero_le _)
  · refine bk33_4 hT ?_
    rw [bit_n hx (by omega), bz_t hb, hc]
    simp (disch := omega) only [forall_eq, nIle, nI_ltI, nIeq, nI_mul, nIx10, n10x, nI_add, nI_clamp, nIin_iff, nIinc, nIlt0, nIeq0, nIle0, nIle1, n1lt, n0lt, nIeq1, bz_0, Classical.not_not, l10]
    exact ⟨fun c => by omega, fun _ => ⟨fun c => absurd trivial c, fun _ => ⟨fun c => absurd trivial c, fun _ => hQ⟩⟩⟩
  · intro t ht ih
    have h1 := ctb_le x t
    refine bk33_4 hT ?_
    rw [bit_n hx (by omega), bz_1]
    simp (disch := omega) only [forall_eq, nIle, nI_ltI, nIeq, nI_mul, nIx10, n10x, nI_add, nI_clamp, nIin_iff, nIinc, nIlt0, nIeq0, nIle0, nIle1, n1lt, n0lt, nIeq1, bz_0, Classical.not_not, l10]
    refine ⟨fun c => by omega, fun _ => ⟨fun c => ?_, fun c => ⟨fun c2 => ?_, fun c2 => ?_⟩⟩⟩
    · rw [ctb_f c] at ih; exact ih
    · rw [ctb_t c] at ih; exact ih
    · have h2 := ctb_mono x (show t + 1 ≤ i by omega)
      rw [ctb_t c] at h2
      omega
theorem ev_drawn (hd : 1 ≤ d) (hT : mWT m) (hO : m.1 o = some (.inr 8) ∧ o ≠ 0) (hx : x < 2 ^ 31) (hi : i < 10) (hb : x.testBit i = true) (hc : ctb x i = n) (hQ : Q (some (.int (nI i))) m) : mEv d 174 [.ref o, .int (nI x), .int (nI n)] m Q := by
  refine mEv.at (by omega) G174 (Nat.le_of_ble_eq_true rfl) ?_
  refine bk174_0 hT hO ?_
  have hn : n ≤ i := by rw [← hc]; exact ctb_le _ _
  refine upto (e := i) (X := fun t => mEs (d - 1) 174 _ g174 (5, [some (.ref o), some (.int (nI x)), some (.int (nI n)), some (.int (nI (n - ctb x t))), some (.int (nI t))], [], m) Q) ?_ ?_ 0 (Nat.zero_le _)
  · refine bk174_5 hT hO ?_
    rw [bit_n hx (by omega), bz_t hb, hc, Nat.sub_self]
    exact ⟨fun c => absurd c (by decide), fun _ => ⟨fun _ => hQ, fun c => absurd (by decide) c⟩⟩
  · intro t ht ih
    have h1 := ctb_mono x (show t + 1 ≤ i by omega)
    refine bk174_5 hT hO ?_
    rw [bit_n hx (by omega), bz_0]
    by_cases q : x.testBit t = true
    · rw [ctb_t q] at ih h1
      rw [bz_t q, nIdec (by omega)]
      simp (disch := omega) only [forall_eq, nIle, nI_ltI, nIeq, nI_mul, nIx10, n10x, nI_add, nI_clamp, nIin_iff, nIinc, nIlt0, nIeq0, nIle0, nIle1, n1lt, n0lt, nIeq1, bz_0, Classical.not_not]
      refine ⟨fun c => absurd q c, fun _ => ⟨fun c => by omega, fun _ => ?_⟩⟩
      rw [Nat.sub_sub]
      exact ih
    · rw [ctb_f q] at ih h1
      rw [bz_f q, Int32.sub_zero]
      simp (disch := omega) only [forall_eq, nIle, nI_ltI, nIeq, nI_mul, nIx10, n10x, nI_add, nI_clamp, nIin_iff, nIinc, nIlt0, nIeq0, nIle0, nIle1, n1lt, n0lt, nIeq1, bz_0, Classical.not_not]
      exact ⟨fun _ => ih, fun c => absurd c q⟩
end BITAT
section ACTS
variable {d o x n P T na : Nat} {tk pt ac : Nat → Nat → Nat} {fi mk : Nat → Nat} {m : mMem} {Q : Option Value → mMem → Prop}
def rmF (o k f : Nat) : Prop := k = o ∧ (f = 20 ∨ f = 21 ∨ f = 27 ∨ f = 45)
theorem ev_remember (hd : 2 ≤ d) (hT : mWT m) (hO : m.1 o = some (.inr 8) ∧ o ≠ 0) (hna : na ≤ 10) (hn : iF m o 20 = nI na) (hac : ∀ a, a < na → ∀ p, p < 10 → m.2.2.1 (64 * o + 10) (10 * a + p) = nI (ac a p)) (hmk : ∀ p, p < 10 → m.2.2.1 (64 * o + 4) p = nI (mk p))
    (hQ : ∀ m', mTo (fun k => k = 64 * o + 10) (rmF o) m m' → (∀ a, a < pNa na → ∀ p, p < 10 → m'.2.2.1 (64 * o + 10) (10 * a + p) = nI (pAc ac na mk a p)) → iF m' o 20 = nI (pNa na) → iF m' o 21 = 0 → iF m' o 27 = 0 → iF m' o 45 = 0 → Q none m') : mEv d 169 [.ref o] m Q := by
  refine mEv.at (by omega) G169 (Nat.le_of_ble_eq_true rfl) ?_
  have main : ∀ (nn : Nat) (bc : Nat → Nat → Nat) (m1 : mMem), nn ≤ 9 → mTo (fun k => k = 64 * o + 10) (rmF o) m m1 → iF m1 o 20 = nI nn → (∀ a, a < nn → ∀ p, p < 10 → m1.2.2.1 (64 * o + 10) (10 * a + p) = nI (bc a p)) → nn + 1 = pNa na → (∀ a, a < nn + 1 → ∀ p, (if a = nn then mk p else bc a p) = pAc ac na mk a p) → mEs (d - 1) 169 o g169 (55, [some (.ref o), some (.int 0)], [], m1) Q := by
    intro nn bc m1 hnn T1 z20 zac e1 e2
    refine upto (e := 10) (X := fun i => ∀ m2, mTo (fun k => k = 64 * o + 10) (rmF o) m m2 → iF m2 o 20 = nI nn → (∀ a, a < nn → ∀ p, p < 10 → m2.2.2.1 (64 * o + 10) (10 * a + p) = nI (bc a p)) → (∀ p, p < i → m2.2.2.1 (64 * o + 10) (10 * nn + p) = nI (mk p)) → mEs (d - 1) 169 o g169 (55, [some (.ref o), some (.int (nI i))], [], m2) Q) ?_ ?_ 0 (Nat.zero_le _) m1 T1 z20 zac (fun p hp => absurd hp (Nat.not_lt_zero _))
    · intro m2 T2 y20 yac ymk
      refine bk169_55 T2.wt (T2.ob hO) ?_
      simp (disch := omega) only [forall_eq, nIle, nI_ltI, nIeq, nI_mul, nIx10, n10x, nI_add, nI_clamp, nIin_iff, nIinc, nIlt0, nIeq0, nIle0, nIle1, n1lt, n0lt, nIeq1, bz_0, Classical.not_not, l10, y20]
      refine ⟨fun _ => ?_, fun c => absurd (Nat.le_refl _) c⟩
      have T3 := T2.sF (v := nI (nn + 1)) hO (f := 20) ⟨rfl, Or.inl rfl⟩ (by decide)
      refine ev_changed (by omega) T3.wt (T3.ob hO) ?_
      have T6 := ((T3.sF (v := 0) hO (f := 21) ⟨rfl, by omega⟩ (by decide)).sF (v := 0) hO (f := 27) ⟨rfl, by omega⟩ (by decide)).sF (v := 0) hO (f := 45) ⟨rfl, by omega⟩ (by decide)
      refine bk169_101 T6.wt (T6.ob hO) (hQ _ T6 ?_ ?_ ?_ ?_ ?_)
      · intro a ha p hp
        simp (disch := omega) only [forall_eq, nIle, nI_ltI, nIeq, nI_mul, nIx10, n10x, nI_add, nI_clamp, nIin_iff, nIinc, nIlt0, nIeq0, nIle0, nIle1, n1lt, n0lt, nIeq1, bz_0, Classical.not_not, rdI_same, rdI_ne, rI_F, rI_J, rJ_F, rJ_I, rdJ_same, rdJ_ne, iF_s, iF_nf, iF_nk, iF_I, iF_J, up_s, up_n]
        rw [← e2 a (by omega) p]
        by_cases q : a = nn
        · subst q; rw [if_pos rfl]; exact ymk p hp
        · rw [if_neg q]; exact yac a (by omega) p hp
      · simp (disch := omega) only [forall_eq, nIle, nI_ltI, nIeq, nI_mul, nIx10, n10x, nI_add, nI_clamp, nIin_iff, nIinc, nIlt0, nIeq0, nIle0, nIle1, n1lt, n0lt, nIeq1, bz_0, Classical.not_not, rdI_same, rdI_ne, rI_F, rI_J, rJ_F, rJ_I, rdJ_same, rdJ_ne, iF_s, iF_nf, iF_nk, iF_I, iF_J, up_s, up_n, e1]
      · simp (disch := omega) only [forall_eq, nIle, nI_ltI, nIeq, nI_mul, nIx10, n10x, nI_add, nI_clamp, nIin_iff, nIinc, nIlt0, nIeq0, nIle0, nIle1, n1lt, n0lt, nIeq1, bz_0, Classical.not_not, rdI_same, rdI_ne, rI_F, rI_J, rJ_F, rJ_I, rdJ_same, rdJ_ne, iF_s, iF_nf, iF_nk, iF_I, iF_J, up_s, up_n]
      · simp (disch := omega) only [forall_eq, nIle, nI_ltI, nIeq, nI_mul, nIx10, n10x, nI_add, nI_clamp, nIin_iff, nIinc, nIlt0, nIeq0, nIle0, nIle1, n1lt, n0lt, nIeq1, bz_0, Classical.not_not, rdI_same, rdI_ne, rI_F, rI_J, rJ_F, rJ_I, rdJ_same, rdJ_ne, iF_s, iF_nf, iF_nk, iF_I, iF_J, up_s, up_n]
      · simp (disch := omega) only [forall_eq, nIle, nI_ltI, nIeq, nI_mul, nIx10, n10x, nI_add, nI_clamp, nIin_iff, nIinc, nIlt0, nIeq0, nIle0, nIle1, n1lt, n0lt, nIeq1, bz_0, Classical.not_not, rdI_same, rdI_ne, rI_F, rI_J, rJ_F, rJ_I, rdJ_same, rdJ_ne, iF_s, iF_nf, iF_nk, iF_I, iF_J, up_s, up_n]
    · intro i hi ih m2 T2 y20 yac ymk
      have e4 : m2.2.2.1 (64 * o + 4) i = nI (mk i) := by rw [T2.i (by omega)]; exact hmk i hi
      refine bk169_55 T2.wt (T2.ob hO) ?_
      simp (disch := omega) only [forall_eq, nIle, nI_ltI, nIeq, nI_mul, nIx10, n10x, nI_add, nI_clamp, nIin_iff, nIinc, nIlt0, nIeq0, nIle0, nIle1, n1lt, n0lt, nIeq1, bz_0, Classical.not_not, l10, y20, e4]
      refine ⟨fun c => by omega, fun _ => ⟨by omega, by omega, ?_⟩⟩
      refine ih _ (T2.sI rfl) y20 ?_ ?_
      · intro a ha p hp
        simp (disch := omega) only [forall_eq, nIle, nI_ltI, nIeq, nI_mul, nIx10, n10x, nI_add, nI_clamp, nIin_iff, nIinc, nIlt0, nIeq0, nIle0, nIle1, n1lt, n0lt, nIeq1, bz_0, Classical.not_not, rdI_same, rdI_ne, rI_F, rI_J, rJ_F, rJ_I, rdJ_same, rdJ_ne, iF_s, iF_nf, iF_nk, iF_I, iF_J, up_s, up_n]
        exact yac a ha p hp
      · intro p hp
        simp (disch := omega) only [forall_eq, nIle, nI_ltI, nIeq, nI_mul, nIx10, n10x, nI_add, nI_clamp, nIin_iff, nIinc, nIlt0, nIeq0, nIle0, nIle1, n1lt, n0lt, nIeq1, bz_0, Classical.not_not, rdI_same, rdI_ne, rI_F, rI_J, rJ_F, rJ_I, rdJ_same, rdJ_ne, iF_s, iF_nf, iF_nk, iF_I, iF_J, up_s, up_n]
        by_cases q : p = i
        · subst q; rw [up_s]
        · rw [up_n (by omega)]; exact ymk p (by omega)
  refine bk169_0 hT hO ?_
  simp (disch := omega) only [forall_eq, nIle, nI_ltI, nIeq, nI_mul, nIx10, n10x, nI_add, nI_clamp, nIin_iff, nIinc, nIlt0, nIeq0, nIle0, nIle1, n1lt, n0lt, nIeq1, bz_0, Classical.not_not, hn, l10]
  refine ⟨fun c => ?_, fun c => ?_⟩
  · exact main na ac m (by omega) (mTo.rf hT) hn hac (by unfold pNa; rw [if_neg c]) (fun a ha p => by unfold pAc; rw [if_neg c])
  · subst c
    rw [nIdec (by omega)]
    have hac' : ∀ j, 10 ≤ j → j < 100 → m.2.2.1 (64 * o + 10) j = nI (ac (j / 10) (j % 10)) := by
      intro j h1 h2
      have := hac (j / 10) (by omega) (j % 10) (by omega)
      rw [show 10 * (j / 10) + j % 10 = j by omega] at this
      exact this
    refine upto (e := 90) (X := fun i => ∀ m2, mTo (fun k => k = 64 * o + 10) (rmF o) m m2 → iF m2 o 20 = nI 9 → (∀ j, i ≤ j → m2.2.2.1 (64 * o + 10) j = m.2.2.1 (64 * o + 10) j) → (∀ j, j < i → m2.2.2.1 (64 * o + 10) j = m.2.2.1 (64 * o + 10) (j + 10)) → mEs (d - 1) 169 o g169 (21, [some (.ref o), some (.int (nI i))], [], m2) Q) ?_ ?_ 0 (Nat.zero_le _) _ ((mTo.rf hT).sF hO ⟨rfl, Or.inl rfl⟩ (by decide)) iF_s (fun j _ => rfl) (fun p hp => absurd hp (Nat.not_lt_zero _))
    · intro m2 T2 y20 y1 y2
      refine bk169_21 T2.wt (T2.ob hO) ?_
      simp (disch := omega) only [forall_eq, nIle, nI_ltI, nIeq, nI_mul, nIx10, n10x, nI_add, nI_clamp, nIin_iff, nIinc, nIlt0, nIeq0, nIle0, nIle1, n1lt, n0lt, nIeq1, bz_0, Classical.not_not, y20]
      refine ⟨fun _ => ?_, fun c => by omega⟩
      refine main 9 (fun a p => ac (a + 1) p) m2 (by omega) T2 y20 ?_ rfl ?_
      · intro a ha p hp
        rw [y2 _ (by omega), hac' _ (by omega) (by omega), show (10 * a + p + 10) / 10 = a + 1 by omega, show (10 * a + p + 10) % 10 = p by omega]
      · intro a ha p
        unfold pAc
        rw [if_pos rfl]
        by_cases q : a = 9
        · rw [if_pos q, if_neg (by omega)]
        · rw [if_neg q, if_pos (by omega)]
    · intro i hi ih m2 T2 y20 y1 y2
      refine bk169_21 T2.wt (T2.ob hO) ?_
      simp (disch := omega) only [forall_eq, nIle, nI_ltI, nIeq, nI_mul, nIx10, n10x, nI_add, nI_clamp, nIin_iff, nIinc, nIlt0, nIeq0, nIle0, nIle1, n1lt, n0lt, nIeq1, bz_0, Classical.not_not, y20, l10]
      refine ⟨fun c => by omega, fun _ => ⟨by omega, by omega, ?_⟩⟩
      refine ih _ (T2.sI rfl) y20 ?_ ?_
      · intro j hj
        simp (disch := omega) only [forall_eq, nIle, nI_ltI, nIeq, nI_mul, nIx10, n10x, nI_add, nI_clamp, nIin_iff, nIinc, nIlt0, nIeq0, nIle0, nIle1, n1lt, n0lt, nIeq1, bz_0, Classical.not_not, rdI_same, rdI_ne, rI_F, rI_J, rJ_F, rJ_I, rdJ_same, rdJ_ne, iF_s, iF_nf, iF_nk, iF_I, iF_J, up_s, up_n]
        exact y1 j (by omega)
      · intro j hj
        simp (disch := omega) only [forall_eq, nIle, nI_ltI, nIeq, nI_mul, nIx10, n10x, nI_add, nI_clamp, nIin_iff, nIinc, nIlt0, nIeq0, nIle0, nIle1, n1lt, n0lt, nIeq1, bz_0, Classical.not_not, rdI_same, rdI_ne, rI_F, rI_J, rJ_F, rJ_I, rdJ_same, rdJ_ne, iF_s, iF_nf, iF_nk, iF_I, iF_J, up_s, up_n]
        by_cases q : j = i
        · subst q; rw [up_s]; exact y1 _ (by omega)
        · rw [up_n (by omega)]; exact y2 j (by omega)
end ACTS
