/-! The model reads a text: contracts. -/
/-- a sign as a byte -/
def bI (c : Nat) : Int32 := (nI c).toInt8.toInt32
theorem bI_toInt : ∀ c, c ≤ 255 → (bI c).toInt = if c < 128 then (c : Int) else (c : Int) - 256 := by
  have h : ∀ c, c < 256 → (bI c).toInt = if c < 128 then (c : Int) else (c : Int) - 256 := by decide +kernel
  exact fun c hc => h c (by omega)
theorem bI_eq {c k : Nat} (hc : c ≤ 255) (hk : k < 128) : bI c = nI k ↔ c = k := by
  rw [fa_eq, bI_toInt c hc, nI_toInt (by omega)]
  split <;> omega
theorem bI_nI {c : Nat} (hc : c < 128) : bI c = nI c := (bI_eq (by omega) hc).mpr rfl
theorem in_iff {x : Int32} {lo hi : Nat} (h : hi < 2 ^ 31) (hl : lo < 2 ^ 31) : ((lN lo ≤ x.toInt64) ∧ (x.toInt64 ≤ lN hi)) ↔ ∃ j, lo ≤ j ∧ j ≤ hi ∧ x = nI j := by
  rw [fa_le64, fa_le64, Int32.toInt_toInt64, lN_toInt h, lN_toInt hl]
  constructor
  · rintro ⟨a, b⟩
    refine ⟨x.toInt.toNat, by omega, by omega, ?_⟩
    rw [fa_eq, nI_toInt (by omega)]
    omega
  · rintro ⟨j, a, b, rfl⟩
    rw [nI_toInt (by omega)]
    omega
theorem inP_iff {x : Int32} {P : Nat} (h : P < 2 ^ 31) : (((0 : Int64) ≤ x.toInt64) ∧ (x.toInt64 ≤ (nI P).toInt64 - 1)) ↔ ∃ j, j < P ∧ x = nI j := by
  have e : ((nI P).toInt64 - 1).toInt = (P : Int) - 1 := by
    rw [fb_subL, nI_l h, lN_toInt h]
    · rfl
    · rw [nI_l h, lN_toInt h]; show -9223372036854775808 ≤ (P : Int) - 1; omega
    · rw [nI_l h, lN_toInt h]; show (P : Int) - 1 < 9223372036854775808; omega
  rw [fa_le64, fa_le64, Int32.toInt_toInt64, e, show (0 : Int64).toInt = 0 from rfl]
  constructor
  · rintro ⟨a, b⟩
    refine ⟨x.toInt.toNat, by omega, ?_⟩
    rw [fa_eq, nI_toInt (by omega)]
    omega
  · rintro ⟨j, a, rfl⟩
    rw [nI_toInt (by omega)]
    omega
/-- the model's text -/
def mTxt (m : mMem) (o : Nat) (tx : Nat → Nat) (len : Nat) : Prop := (m.1 o = some (.inr 8) ∧ o ≠ 0) ∧ iF m o 2 = nI len ∧ (∀ i, i < len → m.2.2.1 (64 * o + 1) i = bI (tx i)) ∧ len ≤ 240 ∧ (∀ i, tx i ≤ 255)
theorem mTxt.to {m m' : mMem} {o len : Nat} {tx : Nat → Nat} {A : Nat → Prop} {F : Nat → Nat → Prop} (h : mTxt m o tx len) (ht : mTo A F m m') (h1 : ¬ A (64 * o + 1)) (h2 : ¬ F o 2) : mTxt m' o tx len := by
  obtain ⟨a, b, c, e, f⟩ := h
  refine ⟨ht.ob a, by rw [ht.nf h2, b], ?_, e, f⟩
  rw [ht.i h1]
  exact c
/-- what next() answers at a -/
def nxV (tx : Nat → Nat) (len a : Nat) : Int32 := if a < len then bI (tx a) else 0
section MPA
variable {d o r lr len a : Nat} {tx : Nat → Nat} {m : mMem} {Q : Option Value → mMem → Prop}
theorem nxV_eq {k : Nat} (hx : ∀ i, tx i ≤ 255) (hk : k < 128) (h0 : 0 < k) : nxV tx len a = nI k ↔ a < len ∧ tx a = k := by
  unfold nxV
  split
  · next h => rw [bI_eq (hx a) hk]; exact ⟨fun q => ⟨h, q⟩, fun q => q.2⟩
  · next h => exact ⟨fun q => (by rw [← nI_0, nIeq (by omega) (by omega)] at q; omega), fun q => absurd q.1 h⟩
theorem nxV_in {lo hi : Nat} (hx : ∀ i, tx i ≤ 255) (hk : hi < 128) (h0 : 0 < lo) (hl : lo ≤ hi) : ((lN lo ≤ (nxV tx len a).toInt64) ∧ ((nxV tx len a).toInt64 ≤ lN hi)) ↔ a < len ∧ lo ≤ tx a ∧ tx a ≤ hi := by
  unfold nxV
  have h5 := hx a
  split
  · next h =>
    rw [in_iff (by omega) (by omega)]
    constructor
    · rintro ⟨j, a1, a2, a3⟩
      rw [bI_eq h5 (by omega)] at a3
      omega
    · rintro ⟨_, a1, a2⟩
      exact ⟨tx a, a1, a2, bI_nI (by omega)⟩
  · next h =>
    rw [in_iff (by omega) (by omega)]
    constructor
    · rintro ⟨j, a1, a2, a3⟩
      rw [← nI_0, nIeq (by omega) (by omega)] at a3
      omega
    · intro q; exact absurd q.1 h
theorem ev_in {x lo hi : Int64} (hd : 1 ≤ d) (hT : mWT m) (hQ : Q (some (.int (bz (lo ≤ x ∧ x ≤ hi)))) m) : mEv d 151 [.long x, .long lo, .long hi] m Q := by
  refine mEv.at (by omega) G151 (Nat.le_of_ble_eq_true rfl) ?_
  refine bk151_0 hT ?_
  rw [lg_cmp_lt, lg_cmp_gt]
  refine ⟨fun c => ?_, fun c => ⟨fun c2 => ?_, fun c2 => ?_⟩⟩
  · rw [bz_f (fun z => Int64.not_lt.mpr z.1 c)] at hQ; exact hQ
  · rw [bz_f (fun z => Int64.not_lt.mpr z.2 c2)] at hQ; exact hQ
  · rw [bz_t ⟨Int64.not_lt.mp c, Int64.not_lt.mp c2⟩] at hQ; exact hQ
theorem ev_next (hd : 1 ≤ d) (hT : mWT m) (hX : mTxt m o tx len) (ha : iF m o 3 = nI a) (hal : a ≤ len) (hQ : Q (some (.int (nxV tx len (sk tx len a)))) (mSetF m o 3 (.int (nI (sk tx len a))))) : mEv d 154 [.ref o] m Q := by
  obtain ⟨hO, h0, hs, h240, h255⟩ := id hX
  refine mEv.at (by omega) G154 (Nat.le_of_ble_eq_true rfl) ?_
  have key : ∀ b, b ≤ len → sk tx len b = sk tx len a → mEs (d - 1) 154 (mBase [.ref o]) g154 (0, [some (.ref o)], [], mSetF m o 3 (.int (nI b))) Q := by
    intro b
    refine byMeas (X := fun b => b ≤ len → sk tx len b = sk tx len a → mEs (d - 1) 154 (mBase [.ref o]) g154 (0, [some (.ref o)], [], mSetF m o 3 (.int (nI b))) Q) (fun b => len - b) (fun b ih => ?_) b
    intro hb hsk
    have ht : mTo (fun _ => False) (fun k f => k = o ∧ f = 3) m (mSetF m o 3 (.int (nI b))) := (mTo.rf hT).sF hO ⟨rfl, rfl⟩ (by decide)
    have hX' := hX.to ht id (by omega)
    have e2 : iF (mSetF m o 3 (.int (nI b))) o 3 = nI b := iF_s
    refine bk154_0 ht.wt (ht.ob hO) ?_
    rw [e2, hX'.2.1]
    by_cases q : b < len
    · have s1 := hX'.2.2.1 b q
      simp (disch := omega) only [forall_eq, nIle, nI_ltI, nIeq, nIx10, n10x, nI_add, nI_clamp, nIin_iff, nIinc, nIlt0, nIeq0, nIle0, nIle1, n1lt, n0lt, nIeq1, bz_0, Classical.not_not, s1]
      refine ⟨fun z => by omega, fun _ => ⟨by omega, fun z => ?_, fun z => ?_⟩⟩
      · have z' : ¬ (b < len ∧ tx b = 32) := fun w => z (by rw [w.2]; exact bI_nI (c := 32) (by omega))
        rw [← hsk, sk_n z', show nxV tx len b = bI (tx b) from if_pos q] at hQ
        exact ⟨fun w => by omega, fun _ => ⟨by omega, hQ⟩⟩
      · have z' : tx b = 32 := (bI_eq (h255 b) (k := 32) (by omega)).mp z
        rw [mSetF_2]
        exact ih (b + 1) (by omega) (by omega) (by rw [← hsk, sk_b q z'])
    · simp (disch := omega) only [forall_eq, nIle, nI_ltI, nIeq, nIx10, n10x, nI_add, nI_clamp, nIin_iff, nIinc, nIlt0, nIeq0, nIle0, nIle1, n1lt, n0lt, nIeq1, bz_0, Classical.not_not]
      rw [← hsk, sk_n (fun w => q w.1), show nxV tx len b = 0 from if_neg q] at hQ
      exact ⟨fun _ => ⟨fun _ => hQ, fun w => by omega⟩, fun w => by omega⟩
  have := key a hal rfl
  rw [mSetF_id] at this
  · exact this
  · rw [hT.int hO 3 (by decide), ha]
theorem ev_wrong {f : Int32} (hd : 1 ≤ d) (hT : mWT m) (hO : m.1 o = some (.inr 8) ∧ o ≠ 0) (hg : iF m o 5 = 1) (hQ : Q none (mSetF (mSetF m o 4 (.int f)) o 5 (.int 0))) : mEv d 156 [.ref o, .int f] m Q := by
  refine mEv.at (by omega) G156 (Nat.le_of_ble_eq_true rfl) ?_
  refine bk156_0 hT hO ?_
  rw [hg]
  simp only [forall_eq]
  exact ⟨fun c => absurd c (by decide), fun _ => hQ⟩
def mrtPost (m' : mMem) (o r lr len : Nat) : rR → Prop
  | .inl f => iF m' o 5 = 0 ∧ iF m' o 4 = nI f ∧ ∃ b, b ≤ len ∧ iF m' o 3 = nI b
  | .inr (a', row', pl') => iF m' o 3 = nI a' ∧ iF m' o 5 = 1 ∧ (∀ i, i < lr → m'.2.2.1 r i = nI (row' i)) ∧ iF m' o 13 = nI pl'
def mrF (o k f : Nat) : Prop := k = o ∧ (f = 3 ∨ f = 4 ∨ f = 5 ∨ f = 13)
theorem ev_mTokens {most base pl : Nat} {row : Nat → Nat} (hd : 2 ≤ d) (hT : mWT m) (hX : mTxt m o tx len) (hA : m.1 r = some (.inl (.int, lr)) ∧ r ≠ 0) (hrs : r ≠ 64 * o + 1) (ha : iF m o 3 = nI a) (hf : iF m o 5 = 1) (hal : a ≤ len) (hb : base + 10 ≤ lr) (hlr : lr ≤ 110) (hrow : ∀ i, i < lr → m.2.2.1 r i = nI (row i)) (hrm : ∀ i, row i ≤ most) (hm : most ≤ 99) (hpl : iF m o 13 = nI pl) (hpl10 : pl ≤ 10)
    (hQ : ∀ m', mTo (fun k => k = r) (mrF o) m m' → mrtPost m' o r lr len (rt tx len most base (sk tx len a) row pl) → Q none m') : mEv d 155 [.ref o, .ref r, .int (nI base), .int (nI most)] m Q := by
  obtain ⟨hO, h0, hs, h240, h255⟩ := id hX
  generalize hR : rt tx len most base (sk tx len a) row pl = R at hQ
  refine mEv.at (by omega) G155 (Nat.le_of_ble_eq_true rfl) ?_
  -- the loop's head behind a fault
  have out : ∀ (m1 : mMem) (o4 o5 o6 : Option Value), mTo (fun k => k = r) (mrF o) m m1 → iF m1 o 5 = 0 → mrtPost m1 o r lr len R → mEs (d - 1) 155 (mBase [.ref o, .ref r, .int (nI base), .int (nI most)]) g155 (0, [some (.ref o), some (.ref r), some (.int (nI base)), some (.int (nI most)), o4, o5, o6], [], m1) Q := by
    intro m1 o4 o5 o6 t1 e5 p
    refine bk155_0 t1.wt (t1.ob hO) (t1.ob hA) ?_
    rw [e5]
    exact ⟨fun _ => hQ m1 t1 p, fun c => absurd rfl c⟩
  have key : ∀ b, ∀ (o4 o5 o6 : Option Value) (m1 : mMem) (row : Nat → Nat) (pl : Nat), b ≤ len → mTo (fun k => k = r) (mrF o) m m1 → iF m1 o 3 = nI b → iF m1 o 5 = 1 → (∀ i, i < lr → m1.2.2.1 r i = nI (row i)) → (∀ i, row i ≤ most) → iF m1 o 13 = nI pl → pl ≤ 10 → rt tx len most base (sk tx len b) row pl = R → mEs (d - 1) 155 (mBase [.ref o, .ref r, .int (nI base), .int (nI most)]) g155 (0, [some (.ref o), some (.ref r), some (.int (nI base)), some (.int (nI most)), o4, o5, o6], [], m1) Q := by
    intro b
    refine byMeas (X := fun b => ∀ (o4 o5 o6 : Option Value) (m1 : mMem) (row : Nat → Nat) (pl : Nat), b ≤ len → mTo (fun k => k = r) (mrF o) m m1 → iF m1 o 3 = nI b → iF m1 o 5 = 1 → (∀ i, i < lr → m1.2.2.1 r i = nI (row i)) → (∀ i, row i ≤ most) → iF m1 o 13 = nI pl → pl ≤ 10 → rt tx len most base (sk tx len b) row pl = R → mEs (d - 1) 155 (mBase [.ref o, .ref r, .int (nI base), .int (nI most)]) g155 (0, [some (.ref o), some (.ref r), some (.int (nI base)), some (.int (nI most)), o4, o5, o6], [], m1) Q) (fun b => len - b) (fun b0 ih => ?_) b
    intro o4 o5 o6 m0 row pl hb0 t0 f2 f3 f4 e5 f6 e7 eR
    have hX0 := hX.to t0 (by omega) (by unfold mrF; omega)
    refine bk155_0 t0.wt (t0.ob hO) (t0.ob hA) ?_
    rw [f3]
    refine ⟨fun c => absurd c (by decide), fun _ => ?_⟩
    refine ev_next (by omega) t0.wt hX0 f2 hb0 ?_
    have hge := sk_ge (tx := tx) (len := len) b0
    have hb2 := sk_le (tx := tx) hb0
    have t1 : mTo (fun k => k = r) (mrF o) m (mSetF m0 o 3 (.int (nI (sk tx len b0)))) := t0.sF hO ⟨rfl, Or.inl rfl⟩ (by decide)
    have e2 : iF (mSetF m0 o 3 (.int (nI (sk tx len b0)))) o 3 = nI (sk tx len b0) := iF_s
    have e3 : iF (mSetF m0 o 3 (.int (nI (sk tx len b0)))) o 5 = 1 := by rw [iF_nf (by decide), f3]
    have e4 : ∀ i, i < lr → (mSetF m0 o 3 (.int (nI (sk tx len b0)))).2.2.1 r i = nI (row i) := f4
    have e6 : iF (mSetF m0 o 3 (.int (nI (sk tx len b0)))) o 13 = nI pl := by rw [iF_nf (by decide), f6]
    generalize mSetF m0 o 3 (.int (nI (sk tx len b0))) = m1 at *
    generalize sk tx len b0 = b at *
    have hX1 := hX.to t1 (by omega) (by unfold mrF; omega)
    refine bk155_11 t1.wt (t1.ob hO) (t1.ob hA) ?_
    refine ev_in (by omega) t1.wt ?_
    rw [show (65 : Int64) = lN 65 from rfl, show (74 : Int64) = lN 74 from rfl, bz_cg (nxV_in h255 (by omega) (by omega) (by omega))]
    refine bk155_21 t1.wt (t1.ob hO) (t1.ob hA) ?_
    simp only [bz_0, Classical.not_not]
    refine ⟨fun q => ?_, fun q => ?_⟩
    · rw [rt_n q] at eR
      exact hQ m1 t1 (by rw [← eR]; exact ⟨e2, e3, e4, e6⟩)
    have q0 : isLt tx len b := q
    obtain ⟨q1, q2, q3⟩ := q
    rw [e2]
    have s1 : m1.2.2.1 (64 * o + 1) b = nI (tx b) := by rw [hX1.2.2.1 b q1]; exact bI_nI (by omega)
    rintro v1 rfl
    refine ⟨(nIin_iff (by omega)).mpr (by omega), ?_⟩
    rw [nI_clamp (by omega), s1, l65, pk_sub q2, nIinc]
    rintro v2 rfl m2 rfl
    have t2 : mTo (fun k => k = r) (mrF o) m (mSetF m1 o 3 (.int (nI (b + 1)))) := t1.sF hO ⟨rfl, Or.inl rfl⟩ (by decide)
    have hX2 := hX.to t2 (by omega) (by unfold mrF; omega)
    rw [iF_s, hX2.2.1]
    have b1 := h255 (b + 1)
    have b2 := e5 (base + (tx b - 65))
    have e4' := e4 (base + (tx b - 65)) (by omega)
    -- what follows the number
    have go : ∀ (m2 : mMem) (x : Nat), mTo (fun k => k = r) (mrF o) m m2 → x = tkN tx len b → iF m2 o 3 = nI (tkA tx len b) → iF m2 o 5 = 1 → m2.2.2.1 r = m1.2.2.1 r → iF m2 o 13 = nI pl → mIn (nI base + nI (tx b - 65)) lr = true ∧ mIn (nI base + nI (tx b - 65)) lr = true ∧ ∀ (m_5 : mMem), m_5 = mSetI m2 r (upd (m2.2.2.1 r) (nI base + nI (tx b - 65)).toNatClampNeg (m2.2.2.1 r (nI base + nI (tx b - 65)).toNatClampNeg + nI x)) → (nI (tx b - 65) + 1 ≤ iF m_5 o 13 → ∀ (m_7 : mMem), m_7 = mSetF m_5 o 13 (.int (iF m_5 o 13)) → mIn (nI base + nI (tx b - 65)) lr = true ∧ ((m_7.2.2.1 r (nI base + nI (tx b - 65)).toNatClampNeg ≤ nI most → mEs (d - 1) 155 (mBase [.ref o, .ref r, .int (nI base), .int (nI most)]) g155 (167, [some (.ref o), some (.ref r), some (.int (nI base)), some (.int (nI most)), some (.int (nI b)), some (.int (nI (tx b - 65))), some (.int (nI x))], [], m_7) Q) ∧ (¬ m_7.2.2.1 r (nI base + nI (tx b - 65)).toNatClampNeg ≤ nI most → mEv (d - 1) 156 [.ref o, .int (nI b)] m_7 (fun r' m' => mEs (d - 1) 155 (mBase [.ref o, .ref r, .int (nI base), .int (nI most)]) g155 (167, [some (.ref o), some (.ref r), some (.int (nI base)), some (.int (nI most)), some (.int (nI b)), some (.int (nI (tx b - 65))), some (.int (nI x))], r'.toList ++ [], m') Q)))) ∧ (¬ nI (tx b - 65) + 1 ≤ iF m_5 o 13 → ∀ (m_9 : mMem), m_9 = mSetF m_5 o 13 (.int (nI (tx b - 65) + 1)) → mIn (nI base + nI (tx b - 65)) lr = true ∧ ((m_9.2.2.1 r (nI base + nI (tx b - 65)).toNatClampNeg ≤ nI most → mEs (d - 1) 155 (mBase [.ref o, .ref r, .int (nI base), .int (nI most)]) g155 (167, [some (.ref o), some (.ref r), some (.int (nI base)), some (.int (nI most)), some (.int (nI b)), some (.int (nI (tx b - 65))), some (.int (nI x))], [], m_9) Q) ∧ (¬ m_9.2.2.1 r (nI base + nI (tx b - 65)).toNatClampNeg ≤ nI most → mEv (d - 1) 156 [.ref o, .int (nI b)] m_9 (fun r' m' => mEs (d - 1) 155 (mBase [.ref o, .ref r, .int (nI base), .int (nI most)]) g155 (167, [some (.ref o), some (.ref r), some (.int (nI base)), some (.int (nI most)), some (.int (nI b)), some (.int (nI (tx b - 65))), some (.int (nI x))], r'.toList ++ [], m') Q)))) := by
      intro m2 x t3 hx f2 f3 f4 f6
      have h9 := tkN_9 (tx := tx) (len := len) b
      have hA1 := tkA_ge (tx := tx) (len := len) b
      have hA2 := tkA_le (tx := tx) (len := len) q1
      -- both ways end with the same memory
      have fin : ∀ w, w = nI (max pl (tx b - 65 + 1)) → mIn (nI base + nI (tx b - 65)) lr = true ∧ (((mSetF (mSetI m2 r (upd (m1.2.2.1 r) (base + (tx b - 65)) (nI (row (base + (tx b - 65)) + x)))) o 13 (.int w)).2.2.1 r (nI base + nI (tx b - 65)).toNatClampNeg ≤ nI most → mEs (d - 1) 155 (mBase [.ref o, .ref r, .int (nI base), .int (nI most)]) g155 (167, [some (.ref o), some (.ref r), some (.int (nI base)), some (.int (nI most)), some (.int (nI b)), some (.int (nI (tx b - 65))), some (.int (nI x))], [], mSetF (mSetI m2 r (upd (m1.2.2.1 r) (base + (tx b - 65)) (nI (row (base + (tx b - 65)) + x)))) o 13 (.int w)) Q) ∧ (¬ (mSetF (mSetI m2 r (upd (m1.2.2.1 r) (base + (tx b - 65)) (nI (row (base + (tx b - 65)) + x)))) o 13 (.int w)).2.2.1 r (nI base + nI (tx b - 65)).toNatClampNeg ≤ nI most → mEv (d - 1) 156 [.ref o, .int (nI b)] (mSetF (mSetI m2 r (upd (m1.2.2.1 r) (base + (tx b - 65)) (nI (row (base + (tx b - 65)) + x)))) o 13 (.int w)) (fun r' m' => mEs (d - 1) 155 (mBase [.ref o, .ref r, .int (nI base), .int (nI most)]) g155 (167, [some (.ref o), some (.ref r), some (.int (nI base)), some (.int (nI most)), some (.int (nI b)), some (.int (nI (tx b - 65))), some (.int (nI x))], r'.toList ++ [], m') Q))) := by
        rintro w rfl
        have t4 := t3.sI (k := r) (g := upd (m1.2.2.1 r) (base + (tx b - 65)) (nI (row (base + (tx b - 65)) + x))) rfl
        have t5 := t4.sF (v := nI (max pl (tx b - 65 + 1))) hO (f := 13) ⟨rfl, by omega⟩ (by decide)
        rw [rI_F, rdI_same, nI_add, nI_clamp (by omega), up_s, nIle (by omega) (by omega)]
        refine ⟨(nIin_iff (by omega)).mpr (by omega), fun z => ?_, fun z => ?_⟩
        · refine bk155_167 t5.wt (t5.ob hO) (t5.ob hA) ?_
          refine ih (tkA tx len b) (by omega) _ _ _ _ (updN row (base + (tx b - 65)) (row (base + (tx b - 65)) + x)) (max pl (tx b - 65 + 1)) hA2 t5 ?_ ?_ ?_ ?_ iF_s (by omega) ?_
          · rw [iF_nf (by decide), iF_I, f2]
          · rw [iF_nf (by decide), iF_I, f3]
          · intro i hi
            rw [rI_F, rdI_same]
            by_cases e : i = base + (tx b - 65)
            · rw [e, up_s, updN_s]
            · rw [up_n e, updN_n e]; exact e4 i hi
          · intro i
            by_cases e : i = base + (tx b - 65)
            · rw [e, updN_s]; omega
            · rw [updN_n e]; exact e5 i
          · rw [hx]
            rw [hx] at z
            rw [← rt_l q0 (by omega)]
            exact eR
        · rw [rt_f q0 (by omega)] at eR
          refine ev_wrong (by omega) t5.wt (t5.ob hO) (by rw [iF_nf (by decide), iF_I, f3]) ?_
          have t6 := (t5.sF (v := nI b) hO (f := 4) ⟨rfl, by omega⟩ (by decide)).sF (v := 0) hO (f := 5) ⟨rfl, by omega⟩ (by decide)
          refine bk155_167 t6.wt (t6.ob hO) (t6.ob hA) ?_
          refine out _ _ _ _ t6 iF_s ?_
          rw [← eR]
          exact ⟨iF_s, by rw [iF_nf (by decide), iF_s], tkA tx len b, hA2, by rw [iF_nf (by decide), iF_nf (by decide), iF_nf (by decide), iF_I, f2]⟩
      rw [nI_add, nI_clamp (by omega), f4, e4', nI_add]
      refine ⟨(nIin_iff (by omega)).mpr (by omega), (nIin_iff (by omega)).mpr (by omega), ?_⟩
      rintro m5 rfl
      rw [iF_I, f6, nIinc, nIle (by omega) (by omega)]
      rw [nI_add, nI_clamp (by omega)] at fin
      refine ⟨fun z => ?_, fun z => ?_⟩
      · rintro m7 rfl
        exact fin _ (by rw [Nat.max_eq_left z])
      · rintro m7 rfl
        exact fin _ (by rw [Nat.max_eq_right (by omega)])
    refine ⟨fun z => ?_, fun z => ?_⟩
    · rw [nIle (by omega) (by omega)] at z
      have z' : ¬ isDg tx len (b + 1) := fun w => by have := w.1; omega
      exact go _ 1 t2 (tkN_f z').symm (by rw [tkA_f z']; exact iF_s) (by rw [iF_nf (by decide), e3]) rfl (by rw [iF_nf (by decide), e6])
    · rw [nIle (by omega) (by omega)] at z
      refine ⟨(nIin_iff (by omega)).mpr (by omega), ?_⟩
      refine ev_in (by omega) t2.wt ?_
      have s2 : (mSetF m1 o 3 (.int (nI (b + 1)))).2.2.1 (64 * o + 1) (nI (b + 1)).toNatClampNeg = nxV tx len (b + 1) := by
        rw [nI_clamp (by omega), hX2.2.2.1 (b + 1) (by omega)]
        exact (if_pos (by omega)).symm
      rw [s2, show (49 : Int64) = lN 49 from rfl, show (57 : Int64) = lN 57 from rfl, bz_cg (nxV_in h255 (by omega) (by omega) (by omega))]
      refine bk155_87 t2.wt (t2.ob hO) (t2.ob hA) ?_
      simp only [bz_0, Classical.not_not]
      refine ⟨fun z => ?_, fun z => ?_⟩
      · exact go _ 1 t2 (tkN_f z).symm (by rw [tkA_f z]; exact iF_s) (by rw [iF_nf (by decide), e3]) rfl (by rw [iF_nf (by decide), e6])
      · have z0 : isDg tx len (b + 1) := z
        obtain ⟨z1, z2, z3⟩ := z
        have s3 : (mSetF m1 o 3 (.int (nI (b + 1)))).2.2.1 (64 * o + 1) (b + 1) = nI (tx (b + 1)) := by
          rw [hX2.2.2.1 (b + 1) z1]; exact bI_nI (by omega)
        rw [iF_s]
        refine ⟨(nIin_iff (by omega)).mpr (by omega), ?_⟩
        rw [nI_clamp (by omega), s3, l48, pk_sub (by omega), nIinc]
        rintro v rfl m3 rfl
        rw [mSetF_2]
        exact go (mSetF m1 o 3 (.int (nI (b + 2)))) (tx (b + 1) - 48) (t1.sF hO ⟨rfl, Or.inl rfl⟩ (by decide)) (tkN_t z0).symm (by rw [tkA_t z0]; exact iF_s) (by rw [iF_nf (by decide), e3]) rfl (by rw [iF_nf (by decide), e6])
  exact key a _ _ _ m row pl hal (mTo.rf hT) ha hf hrow hrm hpl hpl10 hR
end MPA
