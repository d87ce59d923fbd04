/-! The class Script: contracts. -/
theorem l32 : (32 : Int32) = nI 32 := rfl
theorem l48 : (48 : Int32) = nI 48 := rfl
theorem l49 : (49 : Int32) = nI 49 := rfl
theorem l57 : (57 : Int32) = nI 57 := rfl
theorem l59 : (59 : Int32) = nI 59 := rfl
theorem l62 : (62 : Int32) = nI 62 := rfl
theorem l65 : (65 : Int32) = nI 65 := rfl
theorem l74 : (74 : Int32) = nI 74 := rfl
theorem l109 : (109 : Int32) = nI 109 := rfl
theorem mSetF_2 {m : mMem} {k f : Nat} {v w : Value} : mSetF (mSetF m k f v) k f w = mSetF m k f w := by
  unfold mSetF
  have : mRow (mRow m.2.1 k (updV (m.2.1 k) f v)) k (updV ((mRow m.2.1 k (updV (m.2.1 k) f v)) k) f w) = mRow m.2.1 k (updV (m.2.1 k) f w) := by
    funext j i
    unfold mRow
    by_cases e : j = k
    · subst e
      simp only [if_true]
      unfold updV
      by_cases e2 : i = f
      · simp only [if_pos e2]
      · simp only [if_neg e2]
    · simp only [if_neg e]
  show (m.1, mRow (mRow m.2.1 k (updV (m.2.1 k) f v)) k (updV ((mRow m.2.1 k (updV (m.2.1 k) f v)) k) f w), m.2.2) = _
  rw [this]
theorem mSetF_id {m : mMem} {k f : Nat} {v : Value} (h : m.2.1 k f = v) : mSetF m k f v = m := by
  unfold mSetF
  have : mRow m.2.1 k (updV (m.2.1 k) f v) = m.2.1 := by
    funext j i
    unfold mRow
    by_cases e : j = k
    · subst e
      simp only [if_true]
      unfold updV
      by_cases e2 : i = f
      · subst e2; simp only [if_true]; exact h.symm
      · simp only [if_neg e2]
    · simp only [if_neg e]
  rw [this]
theorem maxI {a b : Nat} (ha : a < 2 ^ 31) (hb : b < 2 ^ 31) : (if nI a < nI b then nI b else nI a) = nI (max a b) := by
  by_cases h : a < b
  · rw [if_pos ((nI_ltI ha hb).mpr h), Nat.max_eq_right (Nat.le_of_lt h)]
  · rw [if_neg (fun q => h ((nI_ltI ha hb).mp q)), Nat.max_eq_left (by omega)]
/-- the text of a script object -/
def cTxt (m : mMem) (s : Nat) (tx : Nat → Nat) (len : Nat) : Prop := (m.1 s = some (.inr 1) ∧ s ≠ 0) ∧ iF m s 0 = nI len ∧ (∀ i, i < len → m.2.2.1 (64 * s + 1) i = nI (tx i)) ∧ len ≤ 240 ∧ (∀ i, tx i ≤ 255)
theorem cTxt.to {m m' : mMem} {s len : Nat} {tx : Nat → Nat} {A : Nat → Prop} {F : Nat → Nat → Prop} (h : cTxt m s tx len) (ht : mTo A F m m') (h1 : ¬ A (64 * s + 1)) (h2 : ¬ F s 0) : cTxt m' s tx len := by
  obtain ⟨a, b, c, e, f⟩ := h
  refine ⟨ht.ob a, by rw [ht.nf h2, b], ?_, e, f⟩
  rw [ht.i h1]
  exact c
section SCR
variable {d s n r lr len a : Nat} {tx : Nat → Nat} {m : mMem} {Q : Option Value → mMem → Prop}
theorem ev_isAt {c : Nat} (hd : 1 ≤ d) (hT : mWT m) (hX : cTxt m s tx len) (ha : iF m s 2 = nI a) (hal : a ≤ len) (hc : c < 256) (hQ : Q (some (.int (bz (a < len ∧ tx a = c)))) m) : mEv d 14 [.ref s, .int (nI c)] m Q := by
  obtain ⟨hO, h0, hs, h240, h255⟩ := id hX
  refine mEv.at (by omega) G14 (Nat.le_of_ble_eq_true rfl) ?_
  refine bk14_0 hT hO ?_
  rw [h0, ha]
  have b1 := h255 a
  by_cases q : a < len
  · simp (disch := omega) only [forall_eq, nIle, nI_ltI, nIeq, nIx10, n10x, nI_add, nI_clamp, nIin_iff, nIinc, nIlt0, nIeq0, nIle0, nIle1, n1lt, n0lt, nIeq1, bz_0, Classical.not_not, hs a q]
    refine ⟨fun c => by omega, fun _ => ⟨by omega, fun c => ?_, fun c => ?_⟩⟩
    · rw [bz_f (fun z => c z.2)] at hQ; exact hQ
    · rw [bz_t ⟨q, c⟩] at hQ; exact hQ
  · rw [bz_f (fun z => q z.1)] at hQ
    simp (disch := omega) only [forall_eq, nIle, nI_ltI, nIeq, nIx10, n10x, nI_add, nI_clamp, nIin_iff, nIinc, nIlt0, nIeq0, nIle0, nIle1, n1lt, n0lt, nIeq1, bz_0, Classical.not_not]
    exact ⟨fun _ => hQ, fun c => by omega⟩
theorem ev_isBetween {lo hi : Nat} (hd : 1 ≤ d) (hT : mWT m) (hX : cTxt m s tx len) (ha : iF m s 2 = nI a) (hal : a ≤ len) (hc : lo < 256) (hc2 : hi < 256) (hQ : Q (some (.int (bz (a < len ∧ lo ≤ tx a ∧ tx a ≤ hi)))) m) : mEv d 16 [.ref s, .int (nI lo), .int (nI hi)] m Q := by
  obtain ⟨hO, h0, hs, h240, h255⟩ := id hX
  refine mEv.at (by omega) G16 (Nat.le_of_ble_eq_true rfl) ?_
  refine bk16_0 hT hO ?_
  rw [h0, ha]
  have b1 := h255 a
  by_cases q : a < len
  · simp (disch := omega) only [forall_eq, nIle, nI_ltI, nIeq, nIx10, n10x, nI_add, nI_clamp, nIin_iff, nIinc, nIlt0, nIeq0, nIle0, nIle1, n1lt, n0lt, nIeq1, bz_0, Classical.not_not, hs a q]
    refine ⟨fun c => by omega, fun _ => ⟨by omega, fun c => ?_, fun c => ⟨by omega, fun c2 => ?_, fun c2 => ?_⟩⟩⟩
    · rw [bz_f (fun z => by omega)] at hQ; exact hQ
    · rw [bz_f (fun z => by omega)] at hQ; exact hQ
    · rw [bz_t ⟨q, by omega, by omega⟩] at hQ; exact hQ
  · rw [bz_f (fun z => q z.1)] at hQ
    simp (disch := omega) only [forall_eq, nIle, nI_ltI, nIeq, nIx10, n10x, nI_add, nI_clamp, nIin_iff, nIinc, nIlt0, nIeq0, nIle0, nIle1, n1lt, n0lt, nIeq1, bz_0, Classical.not_not]
    exact ⟨fun _ => hQ, fun c => by omega⟩
theorem ev_skip (hd : 2 ≤ d) (hT : mWT m) (hX : cTxt m s tx len) (ha : iF m s 2 = nI a) (hal : a ≤ len) (hQ : Q none (mSetF m s 2 (.int (nI (sk tx len a))))) : mEv d 13 [.ref s] m Q := by
  obtain ⟨hO, h0, hs, h240, h255⟩ := id hX
  refine mEv.at (by omega) G13 (Nat.le_of_ble_eq_true rfl) ?_
  refine bk13_0 hT hO ?_
  have key : ∀ b, b ≤ len → ∀ c, c ≤ b → sk tx len b = sk tx len a → mEs (d - 1) 13 (mBase [.ref s]) g13 (2, [some (.ref s), some (.int (nI c))], [], mSetF m s 2 (.int (nI b))) Q := by
    intro b
    refine byMeas (X := fun b => b ≤ len → ∀ c, c ≤ b → sk tx len b = sk tx len a → mEs (d - 1) 13 (mBase [.ref s]) g13 (2, [some (.ref s), some (.int (nI c))], [], mSetF m s 2 (.int (nI b))) Q) (fun b => len - b) (fun b ih => ?_) b
    intro hb c hc hsk
    have ht : mTo (fun _ => False) (fun k f => k = s ∧ f = 2) m (mSetF m s 2 (.int (nI b))) := (mTo.rf hT).sF hO ⟨rfl, rfl⟩ (by decide)
    have hX' := hX.to ht id (by omega)
    have e2 : iF (mSetF m s 2 (.int (nI b))) s 2 = nI b := iF_s
    refine bk13_2 ht.wt (ht.ob hO) ?_
    simp (disch := omega) only [forall_eq, nIle, nI_ltI, nIeq, nIx10, n10x, nI_add, nI_clamp, nIin_iff, nIinc, nIlt0, nIeq0, nIle0, nIle1, n1lt, n0lt, nIeq1, bz_0, Classical.not_not, l240]
    refine ⟨fun q => ?_, fun q => ?_⟩
    · rw [← hsk, sk_n (by omega)] at hQ; exact hQ
    · refine ev_isAt (c := 32) (by omega) ht.wt hX' e2 hb (by omega) ?_
      refine bk13_15 ht.wt (ht.ob hO) ?_
      rw [e2]
      simp (disch := omega) only [forall_eq, nIle, nI_ltI, nIeq, nIx10, n10x, nI_add, nI_clamp, nIin_iff, nIinc, nIlt0, nIeq0, nIle0, nIle1, n1lt, n0lt, nIeq1, bz_0, Classical.not_not]
      refine ⟨fun q2 => ?_, fun q2 => ?_⟩
      · rw [← hsk, sk_n q2] at hQ; exact hQ
      · rw [mSetF_2]
        exact ih (b + 1) (by omega) (by omega) (c + 1) (by omega) (by rw [← hsk, sk_b q2.1 q2.2])
  have := key a hal 0 (Nat.zero_le _) rfl
  rw [mSetF_id] at this
  · exact this
  · rw [hT.int hO 2 (by decide), ha]
def rtPost (m' : mMem) (s n r lr : Nat) : rR → Prop
  | .inl f => iF m' s 3 = nI f
  | .inr (a', row', pl') => iF m' s 2 = nI a' ∧ iF m' s 3 = -1 ∧ (∀ i, i < lr → m'.2.2.1 r i = nI (row' i)) ∧ iF m' n 0 = nI pl'
theorem ev_readTokens {most base pl : Nat} {row : Nat → Nat} (hd : 3 ≤ d) (hT : mWT m) (hX : cTxt m s tx len) (hO2 : m.1 n = some (.inr 2) ∧ n ≠ 0) (hA : m.1 r = some (.inl (.int, lr)) ∧ r ≠ 0) (hrs : r ≠ 64 * s + 1) (ha : iF m s 2 = nI a) (hf : iF m s 3 = -1) (hal : a ≤ len) (hb : base + 10 ≤ lr) (hlr : lr ≤ 110) (hrow : ∀ i, i < lr → m.2.2.1 r i = nI (row i)) (hrm : ∀ i, row i ≤ most) (hm : most ≤ 99) (hpl : iF m n 0 = nI pl) (hpl10 : pl ≤ 10) (hsn : s ≠ n)
    (hQ : ∀ m', mTo (fun k => k = r) (fun k f => (k = s ∧ (f = 2 ∨ f = 3)) ∨ (k = n ∧ f = 0)) m m' → rtPost m' s n r lr (rt tx len most base (sk tx len a) row pl) → Q none m') : mEv d 15 [.ref s, .ref n, .ref r, .int (nI base), .int (nI most)] m Q := by
  obtain ⟨hO, h0, hs, h240, h255⟩ := id hX
  generalize hR : rt tx len most base (sk tx len a) row pl = R at hQ
  refine mEv.at (by omega) G15 (Nat.le_of_ble_eq_true rfl) ?_
  refine bk15_0 hT hO hO2 hA ?_
  refine ev_skip (by omega) hT hX ha hal ?_
  have t0 : mTo (fun k => k = r) (fun k f => (k = s ∧ (f = 2 ∨ f = 3)) ∨ (k = n ∧ f = 0)) m (mSetF m s 2 (.int (nI (sk tx len a)))) := (mTo.rf hT).sF hO (Or.inl ⟨rfl, Or.inl rfl⟩) (by decide)
  refine bk15_4 t0.wt (t0.ob hO) (t0.ob hO2) (t0.ob hA) ?_
  have key : ∀ b, ∀ (c : Nat) (o6 o7 o8 : Option Value) (m1 : mMem) (row : Nat → Nat) (pl : Nat), c ≤ b → b ≤ len → mTo (fun k => k = r) (fun k f => (k = s ∧ (f = 2 ∨ f = 3)) ∨ (k = n ∧ f = 0)) m m1 → iF m1 s 2 = nI b → iF m1 s 3 = -1 → (∀ i, i < lr → m1.2.2.1 r i = nI (row i)) → (∀ i, row i ≤ most) → iF m1 n 0 = nI pl → pl ≤ 10 → rt tx len most base b row pl = R → mEs (d - 1) 15 (mBase [.ref s, .ref n, .ref r, .int (nI base), .int (nI most)]) g15 (7, [some (.ref s), some (.ref n), some (.ref r), some (.int (nI base)), some (.int (nI most)), some (.int (nI c)), o6, o7, o8], [], m1) Q := by
    intro b
    refine byMeas (X := fun b => ∀ (c : Nat) (o6 o7 o8 : Option Value) (m1 : mMem) (row : Nat → Nat) (pl : Nat), c ≤ b → b ≤ len → mTo (fun k => k = r) (fun k f => (k = s ∧ (f = 2 ∨ f = 3)) ∨ (k = n ∧ f = 0)) m m1 → iF m1 s 2 = nI b → iF m1 s 3 = -1 → (∀ i, i < lr → m1.2.2.1 r i = nI (row i)) → (∀ i, row i ≤ most) → iF m1 n 0 = nI pl → pl ≤ 10 → rt tx len most base b row pl = R → mEs (d - 1) 15 (mBase [.ref s, .ref n, .ref r, .int (nI base), .int (nI most)]) g15 (7, [some (.ref s), some (.ref n), some (.ref r), some (.int (nI base)), some (.int (nI most)), some (.int (nI c)), o6, o7, o8], [], m1) Q) (fun b => len - b) (fun b ih => ?_) b
    intro c o6 o7 o8 m1 row pl hc hb2 t1 e2 e3 e4 e5 e6 e7 eR
    have hX1 := hX.to t1 (by omega) (by omega)
    refine bk15_7 t1.wt (t1.ob hO) (t1.ob hO2) (t1.ob hA) ?_
    simp (disch := omega) only [forall_eq, nIle, nI_ltI, nIeq, nIx10, n10x, nI_add, nI_clamp, nIin_iff, nIinc, nIlt0, nIeq0, nIle0, nIle1, n1lt, n0lt, nIeq1, bz_0, Classical.not_not, l240]
    have done : ¬ isLt tx len b → Q none m1 := by
      intro q
      rw [rt_n q] at eR
      exact hQ m1 t1 (by rw [← eR]; exact ⟨e2, e3, e4, e6⟩)
    refine ⟨fun q => done (fun z => by have := z.1; omega), fun q => ?_⟩
    refine ev_isBetween (lo := 65) (hi := 74) (by omega) t1.wt hX1 e2 hb2 (by omega) (by omega) ?_
    refine bk15_23 t1.wt (t1.ob hO) (t1.ob hO2) (t1.ob hA) ?_
    simp only [bz_0, Classical.not_not]
    refine ⟨done, fun q => ?_⟩
    have q0 : isLt tx len b := q
    obtain ⟨q1, q2, q3⟩ := q
    rw [e2]
    have s1 : m1.2.2.1 (64 * s + 1) b = nI (tx b) := hX1.2.2.1 b q1
    simp (disch := omega) only [forall_eq, nIle, nI_ltI, nIeq, nIx10, n10x, nI_add, nI_clamp, nIin_iff, nIinc, nIlt0, nIeq0, nIle0, nIle1, n1lt, n0lt, nIeq1, bz_0, Classical.not_not, s1, l65, pk_sub]
    refine ⟨by omega, ?_⟩
    have t2 : mTo (fun k => k = r) (fun k f => (k = s ∧ (f = 2 ∨ f = 3)) ∨ (k = n ∧ f = 0)) m (mSetF m1 s 2 (.int (nI (b + 1)))) := t1.sF hO (Or.inl ⟨rfl, Or.inl rfl⟩) (by decide)
    have hX2 := hX.to t2 (by omega) (by omega)
    refine ev_isBetween (lo := 49) (hi := 57) (by omega) t2.wt hX2 (a := b + 1) iF_s (by omega) (by omega) (by omega) ?_
    refine bk15_65 t2.wt (t2.ob hO) (t2.ob hO2) (t2.ob hA) (by omega) ?_
    have b1 := h255 (b + 1)
    have b2 := e5 (base + (tx b - 65))
    have e4' := e4 (base + (tx b - 65)) (by omega)
    simp only [bz_0, Classical.not_not]
    -- what follows the number
    have go : ∀ (m2 : mMem) (x : Nat) , mTo (fun k => k = r) (fun k f => (k = s ∧ (f = 2 ∨ f = 3)) ∨ (k = n ∧ f = 0)) m m2 → x = tkN tx len b → iF m2 s 2 = nI (tkA tx len b) → iF m2 s 3 = -1 → m2.2.2.1 r = m1.2.2.1 r → iF m2 n 0 = nI pl → mIn (nI base + nI (tx b - 65)) lr = true ∧ ((m2.2.2.1 r (nI base + nI (tx b - 65)).toNatClampNeg + nI x ≤ nI most → mIn (nI base + nI (tx b - 65)) lr = true ∧ mIn (nI base + nI (tx b - 65)) lr = true ∧ ∀ (m_1 : mMem), m_1 = mSetI m2 r (upd (m2.2.2.1 r) (nI base + nI (tx b - 65)).toNatClampNeg (m2.2.2.1 r (nI base + nI (tx b - 65)).toNatClampNeg + nI x)) → ∀ (m_3 : mMem), m_3 = mSetF m_1 n 0 (.int (if iF m_1 n 0 < nI (tx b - 65) + 1 then nI (tx b - 65) + 1 else iF m_1 n 0)) → mEv (d - 1) 13 [.ref s] m_3 (fun r' m' => mEs (d - 1) 15 (mBase [.ref s, .ref n, .ref r, .int (nI base), .int (nI most)]) g15 (143, [some (.ref s), some (.ref n), some (.ref r), some (.int (nI base)), some (.int (nI most)), some (.int (nI c)), some (.int (nI b)), some (.int (nI (tx b - 65))), some (.int (nI x))], r'.toList ++ [], m') Q)) ∧ (¬ m2.2.2.1 r (nI base + nI (tx b - 65)).toNatClampNeg + nI x ≤ nI most → ∀ (m_5 : mMem), m_5 = mSetF m2 s 3 (.int (nI b)) → Q none m_5)) := by
      intro m2 x t3 hx f2 f3 f4 f6
      have h9 := tkN_9 (tx := tx) (len := len) b
      have hA1 := tkA_ge (tx := tx) (len := len) b
      have hA2 := tkA_le (tx := tx) (len := len) q1
      simp (disch := omega) only [forall_eq, nIle, nI_ltI, nIeq, nIx10, n10x, nI_add, nI_clamp, nIin_iff, nIinc, nIlt0, nIeq0, nIle0, nIle1, n1lt, n0lt, nIeq1, bz_0, Classical.not_not, f4, e4']
      refine ⟨by omega, fun z => ⟨by omega, by omega, ?_⟩, fun z => ?_⟩
      · rw [iF_I, f6, maxI (by omega) (by omega)]
        have t4 := t3.sI (k := r) (g := upd (m1.2.2.1 r) (base + (tx b - 65)) (nI (row (base + (tx b - 65)) + x))) rfl
        have t5 := t4.sF (v := nI (max pl (tx b - 65 + 1))) hO2 (f := 0) (Or.inr ⟨rfl, rfl⟩) (by decide)
        have hX5 := hX.to t5 (by omega) (by omega)
        refine ev_skip (by omega) t5.wt hX5 (a := tkA tx len b) (by rw [iF_nk hsn, iF_I, f2]) hA2 ?_
        have t6 := t5.sF (v := nI (sk tx len (tkA tx len b))) hO (f := 2) (Or.inl ⟨rfl, Or.inl rfl⟩) (by decide)
        refine bk15_143 t6.wt (t6.ob hO) (t6.ob hO2) (t6.ob hA) ?_
        simp (disch := omega) only [forall_eq, nIle, nI_ltI, nIeq, nIx10, n10x, nI_add, nI_clamp, nIin_iff, nIinc, nIlt0, nIeq0, nIle0, nIle1, n1lt, n0lt, nIeq1, bz_0, Classical.not_not]
        have hs1 := sk_ge (tx := tx) (len := len) (tkA tx len b)
        refine ih (sk tx len (tkA tx len b)) (by omega) (c + 1) _ _ _ _ (updN row (base + (tx b - 65)) (row (base + (tx b - 65)) + x)) (max pl (tx b - 65 + 1)) (by omega) (sk_le hA2) t6 iF_s ?_ ?_ ?_ ?_ (by omega) ?_
        · rw [iF_nf (by decide), iF_nk hsn, iF_I, f3]
        · intro i hi
          rw [rI_F, rI_F, rdI_same]
          by_cases e : i = base + (tx b - 65)
          · rw [e, up_s, updN_s]
          · rw [up_n e, updN_n e]; exact e4 i hi
        · intro i
          by_cases e : i = base + (tx b - 65)
          · rw [e, updN_s]; omega
          · rw [updN_n e]; exact e5 i
        · rw [iF_nk hsn.symm, iF_s]
        · rw [hx]
          rw [hx] at z
          rw [← rt_l q0 (by omega)]
          exact eR
      · rw [rt_f q0 (by omega)] at eR
        exact hQ _ (t3.sF hO (Or.inl ⟨rfl, Or.inr rfl⟩) (by decide)) (by rw [← eR]; exact iF_s)
    refine ⟨fun z => ?_, fun z => ?_⟩
    · exact go (mSetF m1 s 2 (.int (nI (b + 1)))) 1 t2 (tkN_f z).symm (by rw [tkA_f z]; exact iF_s) (by rw [iF_nf (by decide), e3]) rfl (by rw [iF_nk hsn.symm, e6])
    · have z0 : isDg tx len (b + 1) := z
      obtain ⟨z1, z2, z3⟩ := z
      have s2 : (mSetF m1 s 2 (.int (nI (b + 1)))).2.2.1 (64 * s + 1) (b + 1) = nI (tx (b + 1)) := hX2.2.2.1 (b + 1) z1
      rw [iF_s, nI_clamp (by omega), s2]
      have w := go (mSetF m1 s 2 (.int (nI (b + 2)))) (tx (b + 1) - 48) (t1.sF hO (Or.inl ⟨rfl, Or.inl rfl⟩) (by decide)) (tkN_t z0).symm (by rw [tkA_t z0]; exact iF_s) (by rw [iF_nf (by decide), e3]) rfl (by rw [iF_nk hsn.symm, e6])
      refine ⟨(nIin_iff (by omega)).mpr (by omega), ?_⟩
      rintro v rfl m3 rfl
      rw [mSetF_2, nIinc, l48, pk_sub (by omega)]
      exact w
  exact key (sk tx len a) 0 _ _ _ _ row pl (Nat.zero_le _) (sk_le hal) t0 iF_s (by rw [iF_nf (by decide), hf]) hrow hrm (by rw [iF_nk hsn.symm, hpl]) hpl10 hR
end SCR
