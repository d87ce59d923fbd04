/-! How many bits are set: the JDK's bitCount, the model's ones. -/
def pcK : Nat → Nat → Nat
  | 0, _ => 0
  | k + 1, x => x % 2 + pcK k (x / 2)
/-- how many bits of x are set (32 of them) -/
def pcN (x : Nat) : Nat := fb_ct (fun i => x.testBit i) 32
theorem pcK_ct : ∀ k x, pcK k x = fb_ct (fun i => x.testBit i) k := by
  intro k
  induction k with
  | zero => intro x; rfl
  | succ k ih =>
    intro x
    rw [show pcK (k + 1) x = x % 2 + pcK k (x / 2) from rfl, ih, Nat.add_comm k 1, fb_ct_split]
    have e1 : fb_ct (fun i => x.testBit i) 1 = x % 2 := by
      rw [show fb_ct (fun i => x.testBit i) 1 = 0 + (if x.testBit 0 then 1 else 0) from rfl]
      by_cases h : x.testBit 0 = true
      · rw [if_pos h]; have := Nat.mod_two_eq_one_iff_testBit_zero.mpr h; omega
      · rw [if_neg h]
        have := Nat.mod_two_eq_zero_iff_testBit_zero.mpr (by simpa using h)
        omega
    have e2 : fb_ct (fun i => (x / 2).testBit i) k = fb_ct (fun i => x.testBit (1 + i)) k := fb_ct_cong fun i _ => by
      show (x / 2).testBit i = x.testBit (1 + i)
      rw [Nat.testBit_div_two, Nat.add_comm]
    rw [e1, e2]
theorem pc_ct {x k : Nat} (hx : x < 2 ^ k) (hk : k ≤ 32) : pcN x = fb_ct (fun i => x.testBit i) k := by
  unfold pcN
  have e := fb_ct_split (fun i => x.testBit i) k (32 - k)
  rw [show k + (32 - k) = 32 by omega] at e
  have z : fb_ct (fun j => x.testBit (k + j)) (32 - k) = 0 := fb_ct_zero.mpr fun j _ => Nat.testBit_lt_two_pow (Nat.lt_of_lt_of_le hx (Nat.pow_le_pow_right (by decide) (by omega)))
  rw [e, z, Nat.add_zero]
theorem and_dm (a b n : Nat) : a &&& b = (a % 2 ^ n &&& b % 2 ^ n) + 2 ^ n * (a / 2 ^ n &&& b / 2 ^ n) := by
  rw [← Nat.and_mod_two_pow, ← Nat.and_div_two_pow]
  exact (Nat.mod_add_div _ _).symm
theorem pcK_dec : ∀ k x, x ≠ 0 → x < 2 ^ k → pcK k (x &&& (x - 1)) + 1 = pcK k x := by
  intro k
  induction k with
  | zero => intro x h h2; omega
  | succ k ih =>
    intro x h h2
    have h3 : x / 2 < 2 ^ k := by rw [Nat.pow_succ] at h2; omega
    show (x &&& (x - 1)) % 2 + pcK k ((x &&& (x - 1)) / 2) + 1 = x % 2 + pcK k (x / 2)
    rw [Nat.and_div_two]
    have hm := @Nat.and_mod_two_eq_one x (x - 1)
    rcases Nat.mod_two_eq_zero_or_one x with e | e
    · have e0 : (x &&& (x - 1)) % 2 = 0 := by omega
      rw [e0, e, show (x - 1) / 2 = x / 2 - 1 by omega, Nat.zero_add, Nat.zero_add]
      exact ih (x / 2) (by omega) h3
    · have e0 : (x &&& (x - 1)) % 2 = 0 := by omega
      rw [e0, e, show (x - 1) / 2 = x / 2 by omega, Nat.and_self]
      omega
theorem pc_dec {x : Nat} (h : x ≠ 0) (h2 : x < 2 ^ 32) : pcN (x &&& (x - 1)) + 1 = pcN x := by
  unfold pcN
  rw [← pcK_ct, ← pcK_ct]
  exact pcK_dec 32 x h h2
theorem pc_le (x : Nat) : pcN x ≤ 32 := fb_ct_le _ _
theorem pc_0 : pcN 0 = 0 := by decide
theorem pc_pos {x : Nat} (h : x ≠ 0) (h2 : x < 2 ^ 32) : 0 < pcN x := by have := pc_dec h h2; omega
-- bitCount
def ds (b : Nat) : Nat → Nat → Nat
  | 0, _ => 0
  | k + 1, y => y % b + ds b k (y / b)
def S1 : Nat → Nat → Nat
  | 0, _ => 0
  | k + 1, x => (x % 4 - x % 4 / 2) + 4 * S1 k (x / 4)
def S2 : Nat → Nat → Nat
  | 0, _ => 0
  | k + 1, y => (y % 4 + y / 4 % 4) + 16 * S2 k (y / 16)
def S3 : Nat → Nat → Nat
  | 0, _ => 0
  | k + 1, z => (z % 16 + z / 16 % 16) + 256 * S3 k (z / 256)
def M1 : Nat → Nat
  | 0 => 0
  | k + 1 => 1 + 4 * M1 k
def M2 : Nat → Nat
  | 0 => 0
  | k + 1 => 3 + 16 * M2 k
def M3 : Nat → Nat
  | 0 => 0
  | k + 1 => 15 + 256 * M3 k
theorem an1 : ∀ d, d < 4 → d &&& 1 = d % 2 := by decide
theorem an3 : ∀ d, d < 16 → d &&& 3 = d % 4 := by decide
theorem an15 : ∀ d, d < 256 → d &&& 15 = d % 16 := by decide +kernel
theorem S1_eq : ∀ k x, x < 4 ^ k → x - ((x / 2) &&& M1 k) = S1 k x := by
  intro k
  induction k with
  | zero => intro x h; rw [Nat.pow_zero] at h; show x - _ = 0; omega
  | succ k ih =>
    intro x h
    rw [Nat.pow_succ] at h
    have e := and_dm (x / 2) (1 + 4 * M1 k) 2
    rw [show (2 : Nat) ^ 2 = 4 from rfl, show (1 + 4 * M1 k) % 4 = 1 by omega, show (1 + 4 * M1 k) / 4 = M1 k by omega, an1 _ (by omega), show x / 2 / 4 = x / 4 / 2 by omega] at e
    show x - (x / 2 &&& (1 + 4 * M1 k)) = (x % 4 - x % 4 / 2) + 4 * S1 k (x / 4)
    rw [e, ← ih (x / 4) (by omega)]
    have : (x / 4 / 2 &&& M1 k) ≤ x / 4 / 2 := Nat.and_le_left
    omega
theorem S1_ds : ∀ k x, ds 4 k (S1 k x) = pcK (2 * k) x := by
  intro k
  induction k with
  | zero => intro x; rfl
  | succ k ih =>
    intro x
    show S1 (k + 1) x % 4 + ds 4 k (S1 (k + 1) x / 4) = x % 2 + (x / 2 % 2 + pcK (2 * k) (x / 2 / 2))
    rw [show S1 (k + 1) x = (x % 4 - x % 4 / 2) + 4 * S1 k (x / 4) from rfl, show ((x % 4 - x % 4 / 2) + 4 * S1 k (x / 4)) / 4 = S1 k (x / 4) by omega, ih, show x / 2 / 2 = x / 4 by omega]
    omega
theorem S2_eq : ∀ k y, y < 16 ^ k → (y &&& M2 k) + ((y / 4) &&& M2 k) = S2 k y := by
  intro k
  induction k with
  | zero => intro y h; show (y &&& 0) + (y / 4 &&& 0) = 0; rw [Nat.and_zero, Nat.and_zero]
  | succ k ih =>
    intro y h
    rw [Nat.pow_succ] at h
    have e := and_dm y (3 + 16 * M2 k) 4
    have e2 := and_dm (y / 4) (3 + 16 * M2 k) 4
    rw [show (2 : Nat) ^ 4 = 16 from rfl, show (3 + 16 * M2 k) % 16 = 3 by omega, show (3 + 16 * M2 k) / 16 = M2 k by omega, an3 _ (by omega)] at e e2
    rw [show y / 4 / 16 = y / 16 / 4 by omega] at e2
    show (y &&& (3 + 16 * M2 k)) + (y / 4 &&& (3 + 16 * M2 k)) = (y % 4 + y / 4 % 4) + 16 * S2 k (y / 16)
    rw [e, e2, ← ih (y / 16) (by omega)]
    omega
theorem S2_ds : ∀ k y, ds 16 k (S2 k y) = ds 4 (2 * k) y := by
  intro k
  induction k with
  | zero => intro x; rfl
  | succ k ih =>
    intro y
    show S2 (k + 1) y % 16 + ds 16 k (S2 (k + 1) y / 16) = y % 4 + (y / 4 % 4 + ds 4 (2 * k) (y / 4 / 4))
    rw [show S2 (k + 1) y = (y % 4 + y / 4 % 4) + 16 * S2 k (y / 16) from rfl, show ((y % 4 + y / 4 % 4) + 16 * S2 k (y / 16)) / 16 = S2 k (y / 16) by omega, ih, show y / 4 / 4 = y / 16 by omega]
    omega
/-- digits of base b at most c -/
def dg (b c : Nat) : Nat → Nat → Prop
  | 0, y => y = 0
  | k + 1, y => y % b ≤ c ∧ dg b c k (y / b)
theorem S1_dg : ∀ k x, dg 4 2 k (S1 k x) := by
  intro k
  induction k with
  | zero => intro x; rfl
  | succ k ih =>
    intro x
    refine ⟨?_, ?_⟩
    · show ((x % 4 - x % 4 / 2) + 4 * S1 k (x / 4)) % 4 ≤ 2; omega
    · show dg 4 2 k (((x % 4 - x % 4 / 2) + 4 * S1 k (x / 4)) / 4)
      rw [show ((x % 4 - x % 4 / 2) + 4 * S1 k (x / 4)) / 4 = S1 k (x / 4) by omega]; exact ih _
theorem S2_dg : ∀ k y, dg 4 2 (2 * k) y → dg 16 4 k (S2 k y) := by
  intro k
  induction k with
  | zero => intro x _; rfl
  | succ k ih =>
    intro y h
    have h' : y % 4 ≤ 2 ∧ (y / 4 % 4 ≤ 2 ∧ dg 4 2 (2 * k) (y / 4 / 4)) := h
    refine ⟨?_, ?_⟩
    · show ((y % 4 + y / 4 % 4) + 16 * S2 k (y / 16)) % 16 ≤ 4; omega
    · show dg 16 4 k (((y % 4 + y / 4 % 4) + 16 * S2 k (y / 16)) / 16)
      rw [show ((y % 4 + y / 4 % 4) + 16 * S2 k (y / 16)) / 16 = S2 k (y / 16) by omega]
      refine ih _ ?_
      rw [show y / 16 = y / 4 / 4 by omega]
      exact h'.2.2
theorem dg_lt {b c : Nat} (hb : 0 < b) : ∀ k y, dg b c k y → y < b ^ k := by
  intro k
  induction k with
  | zero => intro y h; have h' : y = 0 := h; rw [h']; exact Nat.one_pos
  | succ k ih =>
    intro y h
    have := ih _ h.2
    rw [Nat.pow_succ]
    rw [Nat.div_lt_iff_lt_mul hb] at this
    exact this
theorem S3_k1 {a b c r : Nat} (ha : a ≤ 4) (hb : b ≤ 4) (hc : c ≤ 4) : (a + 16 * b + 256 * c + 4096 * r + (b + 16 * c + 256 * r)) / 256 = (c + 16 * r) + r := by omega
theorem S3_k2 {z : Nat} (ha : z % 16 ≤ 4) (hb : z / 16 % 16 ≤ 4) (hc : z / 16 / 16 % 16 ≤ 4) : (z + z / 16) / 256 = z / 256 + z / 256 / 16 := by
  have k := S3_k1 (r := z / 4096) ha hb hc
  have e1 : z % 16 + 16 * (z / 16 % 16) + 256 * (z / 16 / 16 % 16) + 4096 * (z / 4096) = z := by omega
  have e2 : z / 16 % 16 + 16 * (z / 16 / 16 % 16) + 256 * (z / 4096) = z / 16 := by omega
  have e3 : z / 16 / 16 % 16 + 16 * (z / 4096) = z / 256 := by omega
  have e4 : z / 4096 = z / 256 / 16 := by omega
  rw [e1, e2, e3] at k
  rw [k, e4]
theorem sum4 {a b c d : Nat} (ha : a ≤ 8) (hb : b ≤ 8) (hc : c ≤ 8) (hd : d ≤ 8) : (a + 256 * b + 65536 * c + 16777216 * d + (b + 256 * c + 65536 * d) + (a + 256 * b + 65536 * c + 16777216 * d + (b + 256 * c + 65536 * d)) / 65536) % 64 = a + (b + (c + (d + 0))) := by
  have e : (a + 256 * b + 65536 * c + 16777216 * d + (b + 256 * c + 65536 * d)) / 65536 = c + d + 256 * d := by omega
  rw [e]
  omega
theorem S3_eq : ∀ k z, dg 16 4 (2 * k) z → (z + z / 16) &&& M3 k = S3 k z := by
  intro k
  induction k with
  | zero => intro z h; show (z + z / 16) &&& 0 = 0; rw [Nat.and_zero]
  | succ k ih =>
    intro z h
    have h' : z % 16 ≤ 4 ∧ (z / 16 % 16 ≤ 4 ∧ dg 16 4 (2 * k) (z / 16 / 16)) := h
    have hq : z / 16 / 16 % 16 ≤ 4 := by
      cases k with
      | zero => have : z / 16 / 16 = 0 := h'.2.2; omega
      | succ j => exact h'.2.2.1
    have e := and_dm (z + z / 16) (15 + 256 * M3 k) 8
    rw [show (2 : Nat) ^ 8 = 256 from rfl, show (15 + 256 * M3 k) % 256 = 15 by omega, show (15 + 256 * M3 k) / 256 = M3 k by omega, an15 _ (by omega), S3_k2 h'.1 h'.2.1 hq] at e
    show (z + z / 16) &&& (15 + 256 * M3 k) = (z % 16 + z / 16 % 16) + 256 * S3 k (z / 256)
    rw [e, ih (z / 256) (by rw [show z / 256 = z / 16 / 16 by omega]; exact h'.2.2)]
    omega
theorem S3_ds : ∀ k z, ds 256 k (S3 k z) = ds 16 (2 * k) z := by
  intro k
  induction k with
  | zero => intro x; rfl
  | succ k ih =>
    intro y
    show S3 (k + 1) y % 256 + ds 256 k (S3 (k + 1) y / 256) = y % 16 + (y / 16 % 16 + ds 16 (2 * k) (y / 16 / 16))
    rw [show S3 (k + 1) y = (y % 16 + y / 16 % 16) + 256 * S3 k (y / 256) from rfl, show ((y % 16 + y / 16 % 16) + 256 * S3 k (y / 256)) / 256 = S3 k (y / 256) by omega, ih, show y / 16 / 16 = y / 256 by omega]
    omega
theorem S3_dg : ∀ k z, dg 16 4 (2 * k) z → dg 256 8 k (S3 k z) := by
  intro k
  induction k with
  | zero => intro x _; rfl
  | succ k ih =>
    intro y h
    have h' : y % 16 ≤ 4 ∧ (y / 16 % 16 ≤ 4 ∧ dg 16 4 (2 * k) (y / 16 / 16)) := h
    refine ⟨?_, ?_⟩
    · show ((y % 16 + y / 16 % 16) + 256 * S3 k (y / 256)) % 256 ≤ 8; omega
    · show dg 256 8 k (((y % 16 + y / 16 % 16) + 256 * S3 k (y / 256)) / 256)
      rw [show ((y % 16 + y / 16 % 16) + 256 * S3 k (y / 256)) / 256 = S3 k (y / 256) by omega]
      refine ih _ ?_
      rw [show y / 256 = y / 16 / 16 by omega]
      exact h'.2.2
theorem swar {x : Nat} (h : x < 2 ^ 31) : ∃ v1 v2 v3, v1 = x - ((x / 2) &&& 1431655765) ∧ v1 < 2 ^ 32 ∧ v2 = (v1 &&& 858993459) + ((v1 / 4) &&& 858993459) ∧ v2 < 2 ^ 32 ∧ v3 = (v2 + v2 / 16) &&& 252645135 ∧ v2 + v2 / 16 < 2 ^ 32 ∧ v3 < 134744073 ∧ (v3 + v3 / 256 + (v3 + v3 / 256) / 65536) % 64 = pcN x := by
  have d1 := S1_dg 16 x
  have d2 := S2_dg 8 (S1 16 x) d1
  have d3 := S3_dg 4 (S2 8 (S1 16 x)) d2
  have l1 := dg_lt (by decide) 16 _ d1
  have l2 := dg_lt (by decide) 8 _ d2
  have e1 := S1_eq 16 x (by omega)
  have e2 := S2_eq 8 (S1 16 x) (by omega)
  have e3 := S3_eq 4 (S2 8 (S1 16 x)) d2
  have s := S3_ds 4 (S2 8 (S1 16 x))
  rw [show 2 * 4 = 8 from rfl, S2_ds 8, show 2 * 8 = 16 from rfl, S1_ds 16, show 2 * 16 = 32 from rfl, pcK_ct] at s
  refine ⟨S1 16 x, S2 8 (S1 16 x), S3 4 (S2 8 (S1 16 x)), e1.symm, by omega, e2.symm, by omega, e3.symm, ?_, ?_, ?_⟩
  · have d2' : S2 8 (S1 16 x) / 16 ^ 7 < 8 := by
      have w : dg 16 4 (7 + 1) (S2 8 (S1 16 x)) := d2
      have w1 := w.2.2.2.2.2.2.2.1
      rw [Nat.div_div_eq_div_mul, Nat.div_div_eq_div_mul, Nat.div_div_eq_div_mul, Nat.div_div_eq_div_mul, Nat.div_div_eq_div_mul, Nat.div_div_eq_div_mul] at w1
      have : S2 8 (S1 16 x) < 4294967296 := l2
      omega
    omega
  · revert d3
    generalize S3 4 (S2 8 (S1 16 x)) = v3
    intro d3
    have w : v3 % 256 ≤ 8 ∧ (v3 / 256 % 256 ≤ 8 ∧ (v3 / 256 / 256 % 256 ≤ 8 ∧ (v3 / 256 / 256 / 256 % 256 ≤ 8 ∧ v3 / 256 / 256 / 256 / 256 = 0))) := d3
    omega
  · revert d3 s
    generalize S3 4 (S2 8 (S1 16 x)) = v3
    intro d3 s
    have w : v3 % 256 ≤ 8 ∧ (v3 / 256 % 256 ≤ 8 ∧ (v3 / 256 / 256 % 256 ≤ 8 ∧ (v3 / 256 / 256 / 256 % 256 ≤ 8 ∧ v3 / 256 / 256 / 256 / 256 = 0))) := d3
    have s' : v3 % 256 + (v3 / 256 % 256 + (v3 / 256 / 256 % 256 + (v3 / 256 / 256 / 256 % 256 + 0))) = pcN x := s
    rw [← s', ← sum4 w.1 w.2.1 w.2.2.1 w.2.2.2.1]
    have e1 : v3 % 256 + 256 * (v3 / 256 % 256) + 65536 * (v3 / 256 / 256 % 256) + 16777216 * (v3 / 256 / 256 / 256 % 256) = v3 := by omega
    have e2 : v3 / 256 % 256 + 256 * (v3 / 256 / 256 % 256) + 65536 * (v3 / 256 / 256 / 256 % 256) = v3 / 256 := by omega
    rw [e1, e2]
section PC
variable {d : Nat} {m : mMem} {Q : Option Value → mMem → Prop}
theorem ush_n {n k : Nat} (hn : n < 2 ^ 32) (hk : k < 32) : ((nI n).toUInt32 >>> ((nI k).toUInt32 &&& Int32.toUInt32 31)).toInt32 = nI (n / 2 ^ k) := pk_ushrN hn (nI k) k (s_u k hk)
theorem ev_bitCount {x : Nat} (hd : 1 ≤ d) (hT : mWT m) (hx : x < 2 ^ 31) (hQ : Q (some (.int (nI (pcN x)))) m) : mEv d 29 [.int (nI x)] m Q := by
  obtain ⟨v1, v2, v3, e1, b1, e2, b2, e3, b3, b4, e4⟩ := swar hx
  refine mEv.at (by omega) G29 (Nat.le_of_ble_eq_true rfl) ?_
  refine bk29_0 hT ?_
  have f1 : nI x - (((nI x).toUInt32 >>> ((1 : Int32).toUInt32 &&& Int32.toUInt32 31)).toInt32 &&& 1431655765) = nI v1 := by
    rw [show (1 : Int32) = nI 1 from rfl, ush_n (by omega) (by omega), show (1431655765 : Int32) = nI 1431655765 from rfl, and_n, pk_sub (Nat.le_trans Nat.and_le_left (Nat.div_le_self _ _)), e1]
  have f2 : (nI v1 &&& 858993459) + (((nI v1).toUInt32 >>> ((2 : Int32).toUInt32 &&& Int32.toUInt32 31)).toInt32 &&& 858993459) = nI v2 := by
    rw [show (2 : Int32) = nI 2 from rfl, ush_n b1 (by omega), show (858993459 : Int32) = nI 858993459 from rfl, and_n, and_n, nI_add, e2]
  have f3 : (nI v2 + ((nI v2).toUInt32 >>> ((4 : Int32).toUInt32 &&& Int32.toUInt32 31)).toInt32) &&& 252645135 = nI v3 := by
    rw [show (4 : Int32) = nI 4 from rfl, ush_n b2 (by omega), show (252645135 : Int32) = nI 252645135 from rfl, nI_add, and_n, e3]
  rintro w1 rfl w2 rfl w3 rfl w4 rfl w5 rfl
  rw [f1, f2, f3, show (8 : Int32) = nI 8 from rfl, ush_n (by omega) (by omega), nI_add, show (16 : Int32) = nI 16 from rfl, ush_n (by omega) (by omega), nI_add, show (63 : Int32) = nI (2 ^ 6 - 1) from rfl, fa_mask]
  rw [← e4] at hQ
  exact hQ
theorem ev_ones {x : Nat} (hd : 1 ≤ d) (hT : mWT m) (hx : x < 2 ^ 31) (hQ : Q (some (.int (nI (pcN x)))) m) : mEv d 171 [.int (nI x)] m Q := by
  refine mEv.at (by omega) G171 (Nat.le_of_ble_eq_true rfl) ?_
  refine bk171_0 hT ?_
  have key : ∀ y, y < 2 ^ 31 → ∀ c, c + pcN y = pcN x → mEs (d - 1) 171 (mBase [.int (nI x)]) g171 (4, [some (.int (nI x)), some (.int (nI c)), some (.int (nI y))], [], m) Q := by
    intro y
    refine byMeas (X := fun y => y < 2 ^ 31 → ∀ c, c + pcN y = pcN x → mEs (d - 1) 171 (mBase [.int (nI x)]) g171 (4, [some (.int (nI x)), some (.int (nI c)), some (.int (nI y))], [], m) Q) (fun y => y) (fun y ih => ?_) y
    intro hy c hc
    refine bk171_4 hT ?_
    simp (disch := omega) only [forall_eq, nIle, nI_ltI, nIeq, nIx10, n10x, nI_add, nI_clamp, nIin_iff, nIinc, nIlt0, nIeq0, nIle0, nIle1, n1lt, n0lt, nIeq1, bz_0, Classical.not_not]
    refine ⟨fun z => ?_, fun z => ?_⟩
    · rw [z, pc_0] at hc
      rw [← hc] at hQ
      exact hQ
    · rw [nIdec (by omega), and_n]
      have h1 : y &&& (y - 1) ≤ y - 1 := Nat.and_le_right
      have h2 := pc_dec z (by omega)
      exact ih _ (by omega) (by omega) (c + 1) (by omega)
  exact key x hx 0 (by omega)
end PC
