/-! The model: rows of flows. -/
theorem sJ1 {m m' : mMem} {a : Nat} {f : Nat → Int64} (e : m' = mSetJ m a f) (hT : mWT m) : mTo (fun k => k = a) (fun _ _ => False) m m' ∧ m'.2.2.2.1 a = f := by
  subst e
  exact ⟨(mTo.rf hT).sJ rfl, rdJ_same⟩
/-- a row of twenty numbers: its own, and what each step changes of it -/
def mRw (m : mMem) (a W : Nat) (D : Nat → Nat → Int) (r : Nat) (row : Nat → Nat) : Prop := (∀ k, k < 10 → m.2.2.2.1 a (20 * r + k) = lN (row k)) ∧ ∀ e, e < 10 → m.2.2.2.1 a (20 * r + 10 + e) = iL (chI W D row e)
def mfR (m : mMem) (a W : Nat) (D : Nat → Nat → Int) (S : fwS) : Prop := ∀ r, r < S.1 → mRw m a W D r (S.2 r)
/-- the j-th of the twenty -/
def rw20 (W : Nat) (D : Nat → Nat → Int) (row : Nat → Nat) (j : Nat) : Int64 := if j < 10 then lN (row j) else iL (chI W D row (j - 10))
theorem mRw_iff {m : mMem} {a W r : Nat} {D : Nat → Nat → Int} {row : Nat → Nat} : mRw m a W D r row ↔ ∀ j, j < 20 → m.2.2.2.1 a (20 * r + j) = rw20 W D row j := by
  unfold rw20
  constructor
  · intro h j hj
    by_cases q : j < 10
    · rw [if_pos q]; exact h.1 j q
    · rw [if_neg q, show 20 * r + j = 20 * r + 10 + (j - 10) by omega]; exact h.2 (j - 10) (by omega)
  · intro h
    refine ⟨fun k hk => ?_, fun e he => ?_⟩
    · rw [h k (by omega), if_pos hk]
    · rw [show 20 * r + 10 + e = 20 * r + (10 + e) by omega, h (10 + e) (by omega), if_neg (by omega), show 10 + e - 10 = e by omega]
theorem uB_10 {W : Nat} {row : Nat → Nat} (hW : W ≤ 10) (h0 : ∀ k, W ≤ k → row k = 0) : bs (fun k => row k ≠ 0) 10 = uB W row := by
  refine tb_ext fun i => ?_
  unfold uB
  rw [bs_tb, bs_tb]
  constructor
  · rintro ⟨h1, h2⟩
    exact ⟨Nat.lt_of_not_le fun z => h2 (h0 i z), h2⟩
  · rintro ⟨h1, h2⟩; exact ⟨by omega, h2⟩
theorem l3000 : (3000 : Int32) = nI 3000 := rfl
section MFW
variable {d o n P T W E lr r e : Nat} {D : Nat → Nat → Int} {tk pt : Nat → Nat → Nat} {fi row : Nat → Nat} {S A : fwS} {m : mMem} {Q : Option Value → mMem → Prop}
theorem mfR.to {B : Nat → Prop} {F : Nat → Nat → Prop} {m' : mMem} {a : Nat} (h : mfR m a W D S) (ht : mTo B F m m') (h1 : ¬ B a) : mfR m' a W D S := by
  unfold mfR mRw
  rw [ht.j h1]
  exact h
theorem ev_support {x : Nat} (hd : 1 ≤ d) (hT : mWT m) (hO : m.1 o = some (.inr 8) ∧ o ≠ 0) (hA : m.1 x = some (.inl (.long, 6020)) ∧ x ≠ 0) (hr : r < 301) (hW : W ≤ 10) (hrow : ∀ k, k < 10 → m.2.2.2.1 x (20 * r + k) = lN (row k)) (h0 : ∀ k, W ≤ k → row k = 0) (hb : ∀ k, row k < 2 ^ 62) (hQ : Q (some (.int (nI (uB W row)))) m) : mEv d 209 [.ref o, .ref x, .int (nI r)] m Q := by
  rw [← uB_10 hW h0] at hQ
  refine mEv.at (by omega) G209 (Nat.le_of_ble_eq_true rfl) ?_
  refine bk209_0 hT hO hA ?_
  refine upto (e := 10) (X := fun k => mEs (d - 1) 209 o g209 (5, [some (.ref o), some (.ref x), some (.int (nI r)), some (.int (nI (bs (fun k => row k ≠ 0) k))), some (.int (nI k))], [], m) Q) ?_ ?_ 0 (Nat.zero_le _)
  · exact bk209_5 hT hO hA ⟨fun _ => hQ, fun c => absurd (by decide) c⟩
  · intro k hk ih
    have h1 := hb k
    refine bk209_5 hT hO hA ?_
    rw [l10, nIle (by omega) (by omega), l20, nI_mul, nI_add, nI_clamp (by omega), hrow k hk, lg_cmp_eq, show (0 : Int64) = lN 0 from rfl, pk_lEQ (by omega) (by decide), nIinc, Int32.or_zero, shl1 (by omega), or_n]
    refine ⟨fun c => by omega, fun _ => ⟨(nIin_iff (by omega)).mpr (by omega), fun c0 => ?_, fun c0 => ?_⟩⟩
    · rintro v rfl v2 rfl
      rw [bs_sf (C := fun k => row k ≠ 0) (fun z => z c0)] at ih; exact ih
    · rintro v rfl v2 rfl
      rw [bs_st (C := fun k => row k ≠ 0) c0] at ih; exact ih
theorem ev_size {z : Int} (hd : 1 ≤ d) (hT : mWT m) (h : z.natAbs < 2 ^ 62) (hQ : Q (some (.long (lN z.natAbs))) m) : mEv d 206 [.long (iL z)] m Q := by
  refine mEv.at (by omega) G206 (Nat.le_of_ble_eq_true rfl) ?_
  refine bk206_0 hT ?_
  rw [lg_cmp_ge]
  have e : (0 ≤ iL z) ↔ 0 ≤ z := by rw [fa_le64, iL_t (by omega) (by omega)]; exact Iff.rfl
  refine ⟨fun c => ?_, fun c => ?_⟩
  · have c' := e.mp c
    rw [← iL_n, show ((z.natAbs : Nat) : Int) = z by omega] at hQ
    exact hQ
  · have c' := mt e.mpr c
    rw [← iL_n, show ((z.natAbs : Nat) : Int) = -z by omega] at hQ
    rw [show -(iL z) = iL (-z) from (Int64.ofInt_neg z).symm]
    exact hQ
theorem ev_commonM {a b : Nat} (hd : 1 ≤ d) (hT : mWT m) (ha : a < 2 ^ 63) (hb : b < 2 ^ 63) (hQ : Q (some (.long (lN (Nat.gcd a b)))) m) : mEv d 207 [.long (lN a), .long (lN b)] m Q := by
  refine mEv.at (by omega) G207 (Nat.le_of_ble_eq_true rfl) ?_
  refine bk207_0 hT ?_
  have go : ∀ y x (x8 x9 : Option Value), x < 2 ^ 63 → y < 2 ^ 63 → Nat.gcd x y = Nat.gcd a b → mEs (d - 1) 207 (mBase [.long (lN a), .long (lN b)]) g207 (6, [some (.long (lN a)), none, some (.long (lN b)), none, some (.long (lN x)), none, some (.long (lN y)), none, x8, x9], [], m) Q := by
    intro y
    induction y using Nat.strongRecOn with
    | ind y ih =>
      intro x x8 x9 hx hy hg
      refine bk207_6 hT ?_
      rw [lg_cmp_eq, show (0 : Int64) = lN 0 from rfl, pk_lEQ hy (by decide)]
      refine ⟨fun c0 => ?_, fun c0 => ⟨fun z => c0 ((pk_lEQ hy (by decide)).mp z), ?_⟩⟩
      · subst c0
        rw [Nat.gcd_zero_right] at hg
        rw [← hg] at hQ
        exact hQ
      · rw [pk_lRem hx (by omega) hy]
        rintro v rfl
        have hm : x % y < y := Nat.mod_lt _ (by omega)
        refine ih (x % y) hm y _ _ hy (by omega) ?_
        rw [← gcd_st]; exact hg
  exact go b a _ _ ha hb rfl
theorem ev_addRow {x l : Nat} (hd : 1 ≤ d) (hT : mWT m) (hO : m.1 o = some (.inr 8) ∧ o ≠ 0) (hA : m.1 x = some (.inl (.long, l)) ∧ x ≠ 0) (hl : 20 * r + 20 ≤ l) (hl2 : l ≤ 6020) (hx : x ≠ 64 * o + 25) (h41 : iF m o 41 = nI A.1) (hM : A.1 ≤ 300) (hR : mfR m (64 * o + 25) W D A) (hrow : mRw m x W D r row)
    (hQ1 : A.1 = 300 → ∀ m', mTo (fun _ => False) (fun k f => k = o ∧ f = 42) m m' → iF m' o 42 = 1 → Q none m')
    (hQ2 : A.1 < 300 → ∀ m', mTo (fun k => k = 64 * o + 25) (fun k f => k = o ∧ f = 41) m m' → iF m' o 41 = nI (A.1 + 1) → mfR m' (64 * o + 25) W D (fAp A row) → Q none m') : mEv d 204 [.ref o, .ref x, .int (nI r)] m Q := by
  rw [mRw_iff] at hrow
  refine mEv.at (by omega) G204 (Nat.le_of_ble_eq_true rfl) ?_
  refine bk204_0 hT hO hA ?_
  rw [h41, l300, nIeq (by omega) (by omega)]
  refine ⟨fun c => ?_, fun c m1 em1 => ?_⟩
  · have hlt : A.1 < 300 := by omega
    refine upto (e := 20) (X := fun j => ∀ m', mTo (fun k => k = 64 * o + 25) (fun _ _ => False) m m' → (∀ i, i < 20 * A.1 → m'.2.2.2.1 (64 * o + 25) i = m.2.2.2.1 (64 * o + 25) i) → (∀ i, i < j → m'.2.2.2.1 (64 * o + 25) (20 * A.1 + i) = rw20 W D row i) → mEs (d - 1) 204 o g204 (18, [some (.ref o), some (.ref x), some (.int (nI r)), some (.int (nI j))], [], m') Q) ?_ ?_ 0 (Nat.zero_le _) m (mTo.rf hT) (fun _ _ => rfl) (fun i hi => absurd hi (Nat.not_lt_zero _))
    · intro m' T' g1 g2
      refine bk204_18 T'.wt (T'.ob hO) (T'.ob hA) ⟨fun _ m2 em2 => ?_, fun c => absurd (by decide) c⟩
      rw [T'.nf id, h41, nIinc] at em2
      obtain ⟨t2, e41⟩ := sF1 em2 T'.wt (T'.ob hO) (by decide)
      refine hQ2 hlt m2 ((T'.mono (fun _ h => h) (fun _ _ h => h.elim)).tr (t2.mono (fun _ h => h.elim) (fun _ _ h => h))) e41 (fun q hq => ?_)
      have hq' : q < A.1 + 1 := hq
      rw [mRw_iff, t2.j id]
      intro j hj
      show _ = rw20 W D (if q = A.1 then row else A.2 q) j
      by_cases e : q = A.1
      · rw [if_pos e, e]; exact g2 j hj
      · rw [if_neg e, g1 _ (by omega)]
        exact mRw_iff.mp (hR q (by omega)) j hj
    · intro j hj ih m' T' g1 g2
      refine bk204_18 T'.wt (T'.ob hO) (T'.ob hA) ?_
      rw [T'.nf id, h41, l20, nIle (by omega) (by omega), nI_mul, nI_mul, nI_add, nI_add, nI_clamp (by omega), nI_clamp (by omega), T'.j hx, hrow j hj, nIinc, nIinc]
      refine ⟨fun c => by omega, fun _ => ⟨(nIin_iff (by omega)).mpr (by omega), (nIin_iff (by omega)).mpr (by omega), fun m2 em2 => ?_⟩⟩
      obtain ⟨t2, b⟩ := sJ1 em2 T'.wt
      rintro v rfl
      refine ih m2 (T'.tr t2) (fun i hi => ?_) (fun i hi => ?_)
      · rw [b, upL_n (by omega)]; exact g1 i hi
      · rw [b]
        by_cases e : i = j
        · subst e; rw [upL_s]
        · rw [upL_n (by omega)]; exact g2 i (by omega)
  · obtain ⟨t1, e42⟩ := sF1 em1 hT hO (by decide)
    exact hQ1 (Classical.not_not.mp c) m1 t1 e42
theorem iL_div {g : Nat} {z : Int} (h0 : 0 < g) (hg : g ≤ 2000000000000000000) (hz : ((g : Int) * z).natAbs ≤ 2000000000000000000) : iL ((g : Int) * z) / lN g = iL z := by
  have hz2 : z.natAbs ≤ 2000000000000000000 := by
    rw [Int.natAbs_mul] at hz
    have : 1 * z.natAbs ≤ (g : Int).natAbs * z.natAbs := Nat.mul_le_mul_right _ (by omega)
    omega
  rw [fa_eq64, Int64.toInt_div, iL_t (by omega) (by omega), pk_lT (by omega), Int.mul_tdiv_cancel_left z (by omega), iL_t (by omega) (by omega), fb_bmodL (by omega) (by omega)]
theorem gF_W {f : Nat → Nat} (h : ∀ k, W ≤ k → f k = 0) : ∀ n, gF f (W + n) = gF f W := by
  intro n
  induction n with
  | zero => rfl
  | succ n ih =>
    show Nat.gcd (gF f (W + n)) (f (W + n)) = _
    rw [h (W + n) (by omega), Nat.gcd_zero_right, ih]
theorem mul9 {x y : Nat} (hx : x ≤ 1000000000) (hy : y ≤ 1000000000) : x * y ≤ 1000000000000000000 := Nat.le_trans (Nat.mul_le_mul hx hy) (by decide)
theorem ev_addPair {a b : Nat} (hd : 2 ≤ d) (hT : mWT m) (hO : m.1 o = some (.inr 8) ∧ o ≠ 0) (hW : W ≤ 10) (hE : E ≤ 10) (hE2 : ∀ k e, E ≤ e → D k e = 0) (hS : fOk W D S) (hR : mfR m (64 * o + 24) W D S) (h42 : iF m o 42 = 0) (ha : a < S.1) (hb : b < S.1) (he : e < 10) (hp : isP W D S e a b) (h41 : iF m o 41 = nI A.1) (hM : A.1 ≤ 300) (hRA : mfR m (64 * o + 25) W D A)
    (hQ1 : (gtR W E D (jn W D S e a b) ∨ A.1 = 300) → ∀ m', mTo (fun k => k = 64 * o + 26) (fun k f => k = o ∧ f = 42) m m' → iF m' o 42 = 1 → Q none m')
    (hQ2 : ¬ gtR W E D (jn W D S e a b) → A.1 < 300 → ∀ m', mTo (fun k => k = 64 * o + 25 ∨ k = 64 * o + 26) (fun k f => k = o ∧ (f = 41 ∨ f = 42)) m m' → iF m' o 42 = 0 → iF m' o 41 = nI (A.1 + 1) → mfR m' (64 * o + 25) W D (fAp A (jn W D S e a b)) → Q none m') : mEv d 205 [.ref o, .int (nI a), .int (nI b), .int (nI e)] m Q := by
  obtain ⟨h300, hrow, _⟩ := id hS
  obtain ⟨ra1, ra2, ra3, kz, kz1, kz2⟩ := hrow a ha
  obtain ⟨rb1, rb2, rb3, _⟩ := hrow b hb
  have eA := hR a ha
  have eB := hR b hb
  have hca := ra3 e
  have hcb := rb3 e
  have hpa := hp.1
  have hpb := hp.2
  refine mEv.at (by omega) G205 (Nat.le_of_ble_eq_true rfl) ?_
  refine bk205_0 hT hO ?_
  rw [l20, l10, nI_mul, nI_add, nI_add, nI_clamp (by omega), eB.2 e he]
  refine ⟨(nIin_iff (by omega)).mpr (by omega), ?_⟩
  refine ev_size (by omega) hT (by omega) ?_
  refine bk205_17 hT hO ?_
  rw [l20, l10, nI_mul, nI_add, nI_add, nI_clamp (by omega), eA.2 e he]
  refine ⟨(nIin_iff (by omega)).mpr (by omega), ?_⟩
  refine ev_size (by omega) hT (by omega) ?_
  refine bk205_36 hT hO ?_
  have ejn : jn W D S e a b = jR W (S.2 a) (S.2 b) (chI W D (S.2 a) e).natAbs (chI W D (S.2 b) e).natAbs := rfl
  have hlin : ∀ e', (gF (jS (S.2 a) (S.2 b) (chI W D (S.2 a) e).natAbs (chI W D (S.2 b) e).natAbs) W : Int) * chI W D (jn W D S e a b) e' = ((chI W D (S.2 b) e).natAbs : Int) * chI W D (S.2 a) e' + ((chI W D (S.2 a) e).natAbs : Int) * chI W D (S.2 b) e' := fun e' => chI_div
  have hjn : ∀ k, k < 10 → jS (S.2 a) (S.2 b) (chI W D (S.2 a) e).natAbs (chI W D (S.2 b) e).natAbs k / gF (jS (S.2 a) (S.2 b) (chI W D (S.2 a) e).natAbs (chI W D (S.2 b) e).natAbs) W = jn W D S e a b k := fun k _ => rfl
  have hcb0 : (chI W D (S.2 b) e).natAbs ≠ 0 := by omega
  generalize (chI W D (S.2 a) e).natAbs = ca at *
  generalize (chI W D (S.2 b) e).natAbs = cb at *
  have hsb : ∀ k, jS (S.2 a) (S.2 b) ca cb k ≤ 2000000000000000000 := fun k => jS_b (ra2 k) (rb2 k) hca hcb
  have hgl := gF_le hsb
  have hlb : ∀ e', ((cb : Int) * chI W D (S.2 a) e' + (ca : Int) * chI W D (S.2 b) e').natAbs ≤ 2000000000000000000 := by
    intro e'
    have h1 := mul9 hcb (ra3 e')
    have h2 := mul9 hca (rb3 e')
    have h3 : ((cb : Int) * chI W D (S.2 a) e').natAbs = cb * (chI W D (S.2 a) e').natAbs := by rw [Int.natAbs_mul]; rfl
    have h4 : ((ca : Int) * chI W D (S.2 b) e').natAbs = ca * (chI W D (S.2 b) e').natAbs := by rw [Int.natAbs_mul]; rfl
    omega
  have hg0 : 0 < gF (jS (S.2 a) (S.2 b) ca cb) W := by
    refine gF_pos kz1 ?_
    unfold jS
    have : 0 < S.2 a kz * cb := Nat.mul_pos (by omega) (by omega)
    omega
  have hg1 := hgl W
  have eg10 : gF (jS (S.2 a) (S.2 b) ca cb) 10 = gF (jS (S.2 a) (S.2 b) ca cb) W := by
    have := gF_W (W := W) (f := jS (S.2 a) (S.2 b) ca cb) (fun k hk => by unfold jS; rw [ra1 k hk, rb1 k hk, Nat.zero_mul, Nat.zero_mul]) (10 - W)
    rw [show W + (10 - W) = 10 by omega] at this
    exact this
  -- the twenty sums
  let sv : Nat → Int64 := fun j => if j < 10 then lN (jS (S.2 a) (S.2 b) ca cb j) else iL ((cb : Int) * chI W D (S.2 a) (j - 10) + (ca : Int) * chI W D (S.2 b) (j - 10))
  have hsv : ∀ j, j < 20 → lN cb * rw20 W D (S.2 a) j + lN ca * rw20 W D (S.2 b) j = sv j := by
    intro j hj
    show _ = if j < 10 then _ else _
    unfold rw20
    by_cases q : j < 10
    · rw [if_pos q, if_pos q, if_pos q, ← iL_n, ← iL_n, ← iL_n, ← iL_n, iL_mul, iL_mul, iL_add, ← iL_n]
      congr 1
      unfold jS
      rw [Int.natCast_add, Int.natCast_mul, Int.natCast_mul, Int.mul_comm (cb : Int), Int.mul_comm (ca : Int)]
    · rw [if_neg q, if_neg q, if_neg q, ← iL_n, ← iL_n, iL_mul, iL_mul, iL_add]
  have eA' := mRw_iff.mp eA
  have eB' := mRw_iff.mp eB
  refine upto (e := 20) (X := fun j => ∀ m', mTo (fun k => k = 64 * o + 26) (fun _ _ => False) m m' → (∀ i, i < j → m'.2.2.2.1 (64 * o + 26) i = sv i) → mEs (d - 1) 205 o g205 (44, [some (.ref o), some (.int (nI a)), some (.int (nI b)), some (.int (nI e)), some (.long (lN cb)), none, some (.long (lN ca)), none, some (.long (lN (gF (jS (S.2 a) (S.2 b) ca cb) (min j 10)))), none, some (.int (nI j))], [], m') Q) ?_ ?_ 0 (Nat.zero_le _) m (mTo.rf hT) (fun i hi => absurd hi (Nat.not_lt_zero _))
  · intro m1 T1 g1
    refine bk205_44 T1.wt (T1.ob hO) ⟨fun _ => ?_, fun c => absurd (by decide) c⟩
    rw [show min 20 10 = 10 from rfl, eg10]
    have hdv : ∀ j, j < 20 → sv j / lN (gF (jS (S.2 a) (S.2 b) ca cb) W) = rw20 W D (jn W D S e a b) j := by
      intro j hj
      show (if j < 10 then _ else _) / _ = _
      unfold rw20
      by_cases q : j < 10
      · rw [if_pos q, if_pos q, pk_lDiv (by have := hsb j; omega) hg0 (by omega), hjn j q]
      · rw [if_neg q, if_neg q, ← hlin (j - 10), iL_div hg0 hg1 (by rw [hlin]; exact hlb (j - 10))]
    have hab : ∀ j, j < 20 → ∃ z : Int, rw20 W D (jn W D S e a b) j = iL z ∧ z.natAbs < 2 ^ 62 ∧ (1000000000 < z.natAbs ↔ (j < 10 ∧ 1000000000 < jn W D S e a b j) ∨ (10 ≤ j ∧ 1000000000 < (chI W D (jn W D S e a b) (j - 10)).natAbs)) := by
      intro j hj
      unfold rw20
      by_cases q : j < 10
      · refine ⟨(jn W D S e a b j : Int), by rw [if_pos q]; rfl, ?_, ?_⟩
        · have : jn W D S e a b j ≤ 2000000000000000000 := by rw [← hjn j q]; exact Nat.le_trans (Nat.div_le_self _ _) (hsb j)
          omega
        · omega
      · refine ⟨chI W D (jn W D S e a b) (j - 10), by rw [if_neg q], ?_, ?_⟩
        · have h1 := hlb (j - 10)
          rw [← hlin, Int.natAbs_mul] at h1
          have : 1 * (chI W D (jn W D S e a b) (j - 10)).natAbs ≤ (gF (jS (S.2 a) (S.2 b) ca cb) W : Int).natAbs * (chI W D (jn W D S e a b) (j - 10)).natAbs := Nat.mul_le_mul_right _ (by omega)
          omega
        · omega
    have gEq : (∃ j, j < 20 ∧ ((j < 10 ∧ 1000000000 < jn W D S e a b j) ∨ (10 ≤ j ∧ 1000000000 < (chI W D (jn W D S e a b) (j - 10)).natAbs))) ↔ gtR W E D (jn W D S e a b) := by
      constructor
      · rintro ⟨j, hj, ⟨h1, h2⟩ | ⟨h1, h2⟩⟩
        · refine Or.inl ⟨j, Nat.lt_of_not_le fun z => ?_, h2⟩
          have : jn W D S e a b j = 0 := jR_0 (ra1 j z) (rb1 j z)
          omega
        · refine Or.inr ⟨j - 10, Nat.lt_of_not_le fun z => ?_, h2⟩
          rw [chI_out (fun k => hE2 k _ z)] at h2
          exact absurd h2 (by decide)
      · rintro (⟨k, hk, h2⟩ | ⟨e', he', h2⟩)
        · exact ⟨k, by omega, Or.inl ⟨by omega, h2⟩⟩
        · exact ⟨10 + e', by omega, Or.inr ⟨by omega, by rw [show 10 + e' - 10 = e' by omega]; exact h2⟩⟩
    generalize gF (jS (S.2 a) (S.2 b) ca cb) W = g at *
    refine upto (e := 20) (X := fun j => ∀ m', mTo (fun k => k = 64 * o + 26) (fun k f => k = o ∧ f = 42) m m' → (∀ i, i < j → m'.2.2.2.1 (64 * o + 26) i = rw20 W D (jn W D S e a b) i) → (∀ i, j ≤ i → i < 20 → m'.2.2.2.1 (64 * o + 26) i = sv i) → iF m' o 42 = bz (∃ i, i < j ∧ ((i < 10 ∧ 1000000000 < jn W D S e a b i) ∨ (10 ≤ i ∧ 1000000000 < (chI W D (jn W D S e a b) (i - 10)).natAbs))) → mEs (d - 1) 205 o g205 (124, [some (.ref o), some (.int (nI a)), some (.int (nI b)), some (.int (nI e)), some (.long (lN cb)), none, some (.long (lN ca)), none, some (.long (lN g)), none, some (.int (nI j))], [], m') Q) ?_ ?_ 0 (Nat.zero_le _) m1 (T1.mono (fun _ h => h) (fun _ _ h => h.elim)) (fun i hi => absurd hi (Nat.not_lt_zero _)) (fun i _ hi => g1 i hi) (by rw [T1.nf id, h42, bz_f (fun ⟨i, h, _⟩ => absurd h (Nat.not_lt_zero _))])
    · intro m2 T2 g2 g3 g4
      rw [bz_cg gEq] at g4
      refine bk205_124 T2.wt (T2.ob hO) ⟨fun _ => ?_, fun c => absurd (by decide) c⟩
      rw [g4, bz_n0]
      refine ⟨fun cg => bk205_198 T2.wt (T2.ob hO) (hQ1 (Or.inl cg) m2 T2 (by rw [g4, bz_t cg])), fun cg => ?_⟩
      rw [bz_f cg] at g4
      refine ev_addRow (A := A) (row := jn W D S e a b) (W := W) (D := D) (r := 0) (l := 20) (by omega) T2.wt (T2.ob hO) (T2.wt.arr (T2.ob hO) 25 rfl (by decide)) (by omega) (by omega) (by omega) (by rw [T2.nf (by omega)]; exact h41) hM (hRA.to T2 (by omega)) (mRw_iff.mpr (fun j hj => by rw [show 20 * 0 + j = j by omega]; exact g2 j hj)) ?_ ?_
      · intro h3 m3 t3 e42
        have T3 : mTo (fun k => k = 64 * o + 26) (fun k f => k = o ∧ f = 42) m m3 := T2.tr (t3.mono (fun _ h => h.elim) (fun _ _ h => h))
        exact bk205_198 T3.wt (T3.ob hO) (hQ1 (Or.inr h3) m3 T3 e42)
      · intro h3 m3 t3 e41 R3
        have T3 : mTo (fun k => k = 64 * o + 25 ∨ k = 64 * o + 26) (fun k f => k = o ∧ (f = 41 ∨ f = 42)) m m3 := (T2.mono (fun _ h => Or.inr h) (fun k f h => ⟨h.1, Or.inr h.2⟩)).tr (t3.mono (fun _ h => Or.inl h) (fun k f h => ⟨h.1, Or.inl h.2⟩))
        exact bk205_198 T3.wt (T3.ob hO) (hQ2 cg h3 m3 T3 (by rw [t3.nf (by omega)]; exact g4) e41 R3)
    · intro j hj ih m2 T2 g2 g3 g4
      refine bk205_124 T2.wt (T2.ob hO) ?_
      rw [l20, nIle (by omega) (by omega), nI_clamp (by omega), g3 j (Nat.le_refl _) hj, hdv j hj, nIinc]
      refine ⟨fun c => by omega, fun _ => ⟨(nIin_iff (by omega)).mpr hj, fun z => ?_, (nIin_iff (by omega)).mpr hj, fun m3 em3 => ?_⟩⟩
      · have := (pk_lEQ (a := g) (b := 0) (by omega) (by decide)).mp z
        omega
      · obtain ⟨t3, b26⟩ := sJ1 em3 T2.wt
        have T3 : mTo (fun k => k = 64 * o + 26) (fun k f => k = o ∧ f = 42) m m3 := T2.tr (t3.mono (fun _ h => h) (fun _ _ h => h.elim))
        have z42 : iF m3 o 42 = iF m2 o 42 := t3.nf id
        have e26 : m3.2.2.2.1 (64 * o + 26) j = rw20 W D (jn W D S e a b) j := by rw [b26, upL_s]
        have nxt : ∀ (v : Int32) (C : Prop), v = bz C → (C ↔ ∃ i, i < j + 1 ∧ ((i < 10 ∧ 1000000000 < jn W D S e a b i) ∨ (10 ≤ i ∧ 1000000000 < (chI W D (jn W D S e a b) (i - 10)).natAbs))) → ∀ m4, m4 = mSetF m3 o 42 (.int v) → mEs (d - 1) 205 o g205 (124, [some (.ref o), some (.int (nI a)), some (.int (nI b)), some (.int (nI e)), some (.long (lN cb)), none, some (.long (lN ca)), none, some (.long (lN g)), none, some (.int (nI (j + 1)))], [], m4) Q := by
          intro v C hv hC m4 em4
          obtain ⟨t4, e42⟩ := sF1 em4 T3.wt (T3.ob hO) (by decide)
          refine ih m4 (T3.tr (t4.mono (fun _ h => h.elim) (fun _ _ h => h))) (fun i hi => ?_) (fun i hi hi2 => ?_) (by rw [e42, hv]; exact bz_cg hC)
          · rw [t4.j id]
            by_cases q : i = j
            · subst q; exact e26
            · rw [b26, upL_n q]; exact g2 i (by omega)
          · rw [t4.j id, b26, upL_n (by omega)]; exact g3 i (by omega) hi2
        rw [z42, g4, bz_n0, e26]
        refine ⟨fun cf m4 em4 => ?_, fun cf => ⟨(nIin_iff (by omega)).mpr hj, ?_⟩⟩
        · rintro v rfl
          obtain ⟨i, h1, h2⟩ := cf
          exact nxt 1 True (bz_t trivial).symm ⟨fun _ => ⟨i, by omega, h2⟩, fun _ => trivial⟩ m4 em4
        · obtain ⟨z, hz1, hz2, hz3⟩ := hab j hj
          rw [hz1]
          refine ev_size (by omega) T3.wt hz2 ?_
          refine bk205_161 T3.wt (T3.ob hO) (T3.ob hO) ?_
          rw [lg_cmp_le, show (1000000000 : Int64) = lN 1000000000 from rfl, pk_lLE (by omega) (by decide), nIinc]
          refine ⟨fun c1 m4 em4 => ?_, fun c1 m4 em4 => ?_⟩
          · rintro v rfl
            refine nxt 0 False (bz_f id).symm ⟨False.elim, fun ⟨i, h1, h2⟩ => ?_⟩ m4 em4
            by_cases q : i = j
            · subst q
              have := hz3.mpr h2
              omega
            · exact cf ⟨i, by omega, h2⟩
          · rintro v rfl
            exact nxt 1 True (bz_t trivial).symm ⟨fun _ => ⟨j, Nat.lt_succ_self _, hz3.mp (by omega)⟩, fun _ => trivial⟩ m4 em4
  · intro j hj ih m1 T1 g1
    have hsvj := hsv j hj
    have aJ : m1.2.2.2.1 (64 * o + 24) = m.2.2.2.1 (64 * o + 24) := T1.j (by omega)
    refine bk205_44 T1.wt (T1.ob hO) ?_
    rw [l20, nIle (by omega) (by omega), nI_mul, nI_mul, nI_add, nI_add, nI_clamp (by omega), nI_clamp (by omega), nI_clamp (by omega), aJ, eA' j hj, eB' j hj, hsvj, l10, nIle (by omega) (by omega), nIinc]
    refine ⟨fun c => by omega, fun _ => ⟨(nIin_iff (by omega)).mpr (by omega), (nIin_iff (by omega)).mpr (by omega), (nIin_iff (by omega)).mpr (by omega), fun m2 em2 => ?_⟩⟩
    obtain ⟨t2, b26⟩ := sJ1 em2 T1.wt
    have T2 := T1.tr t2
    have g2 : ∀ i, i < j + 1 → m2.2.2.2.1 (64 * o + 26) i = sv i := by
      intro i hi
      rw [b26]
      by_cases q : i = j
      · subst q; rw [upL_s]
      · rw [upL_n q]; exact g1 i (by omega)
    refine ⟨fun c10 => ?_, fun c10 => ⟨(nIin_iff (by omega)).mpr (by omega), ?_⟩⟩
    · rintro v rfl
      have := ih m2 T2 g2
      rw [show min (j + 1) 10 = min j 10 by omega] at this
      exact this
    · have e2 : m2.2.2.2.1 (64 * o + 26) j = lN (jS (S.2 a) (S.2 b) ca cb j) := by
        rw [g2 j (Nat.lt_succ_self _)]
        show (if j < 10 then _ else _) = _
        rw [if_pos (by omega)]
      rw [e2, show min j 10 = j by omega]
      refine ev_commonM (by omega) T2.wt (by have := hgl j; omega) (by have := hsb j; omega) ?_
      refine bk205_108 T2.wt (T2.ob hO) ?_
      rw [nIinc]
      rintro v rfl
      have := ih m2 T2 g2
      rw [show min (j + 1) 10 = j + 1 by omega] at this
      exact this
end MFW
