/-! The unfolding, in plain terms: the numbers that begin alike. -/
def bw (dep : Nat) : Nat := if dep = 0 then 2097152 else if dep = 1 then 16384 else if dep = 2 then 128 else 1
section BLK
variable {s t dep L : Nat} {A B : Nat → Nat}
theorem bl_in (hd : dep ≤ 3) (ht : t < 16) (hA : ∀ i, i < dep → A i < 128) (h1 : kyN s t dep A ≤ L) (h2 : L < kyN s t dep A + bw dep) : kSz L = s ∧ kTr L = t ∧ ∀ i, i < dep → kAt L i = A i := by
  rcases (show dep = 0 ∨ dep = 1 ∨ dep = 2 ∨ dep = 3 by omega) with rfl | rfl | rfl | rfl
  · have e1 : s * 33554432 + t * 2097152 + 0 * 16384 + 0 * 128 + 0 ≤ L := h1
    have e2 : L < s * 33554432 + t * 2097152 + 0 * 16384 + 0 * 128 + 0 + 2097152 := h2
    unfold kSz kTr
    exact ⟨by omega, by omega, fun i hi => by omega⟩
  · have a0 := hA 0 (by omega)
    have e1 : s * 33554432 + t * 2097152 + A 0 * 16384 + 0 * 128 + 0 ≤ L := h1
    have e2 : L < s * 33554432 + t * 2097152 + A 0 * 16384 + 0 * 128 + 0 + 16384 := h2
    unfold kSz kTr
    refine ⟨by omega, by omega, fun i hi => ?_⟩
    obtain rfl : i = 0 := by omega
    show L / 16384 % 128 = A 0
    omega
  · have a0 := hA 0 (by omega)
    have a1 := hA 1 (by omega)
    have e1 : s * 33554432 + t * 2097152 + A 0 * 16384 + A 1 * 128 + 0 ≤ L := h1
    have e2 : L < s * 33554432 + t * 2097152 + A 0 * 16384 + A 1 * 128 + 0 + 128 := h2
    unfold kSz kTr
    refine ⟨by omega, by omega, fun i hi => ?_⟩
    rcases (show i = 0 ∨ i = 1 by omega) with rfl | rfl
    · show L / 16384 % 128 = A 0
      omega
    · show L / 128 % 128 = A 1
      omega
  · have a0 := hA 0 (by omega)
    have a1 := hA 1 (by omega)
    have a2 := hA 2 (by omega)
    have e1 : s * 33554432 + t * 2097152 + A 0 * 16384 + A 1 * 128 + A 2 ≤ L := h1
    have e2 : L < s * 33554432 + t * 2097152 + A 0 * 16384 + A 1 * 128 + A 2 + 1 := h2
    unfold kSz kTr
    refine ⟨by omega, by omega, fun i hi => ?_⟩
    rcases (show i = 0 ∨ i = 1 ∨ i = 2 by omega) with rfl | rfl | rfl
    · show L / 16384 % 128 = A 0
      omega
    · show L / 128 % 128 = A 1
      omega
    · show L % 128 = A 2
      omega
theorem bl_ky (hd : dep < 3) (c : Nat) : kyN s t (dep + 1) (updN A dep c) = kyN s t dep A + c * bw (dep + 1) := by
  rcases (show dep = 0 ∨ dep = 1 ∨ dep = 2 by omega) with rfl | rfl | rfl
  · show s * 33554432 + t * 2097152 + c * 16384 + 0 * 128 + 0 = s * 33554432 + t * 2097152 + 0 * 16384 + 0 * 128 + 0 + c * 16384
    omega
  · show s * 33554432 + t * 2097152 + A 0 * 16384 + c * 128 + 0 = s * 33554432 + t * 2097152 + A 0 * 16384 + 0 * 128 + 0 + c * 128
    omega
  · show s * 33554432 + t * 2097152 + A 0 * 16384 + A 1 * 128 + c = s * 33554432 + t * 2097152 + A 0 * 16384 + A 1 * 128 + 0 + c * 1
    omega
theorem bw_s (hd : dep < 3) : bw dep = 128 * bw (dep + 1) := by
  rcases (show dep = 0 ∨ dep = 1 ∨ dep = 2 by omega) with rfl | rfl | rfl <;> rfl
theorem bw_1 : 1 ≤ bw dep := by
  unfold bw
  split
  · omega
  · split
    · omega
    · split <;> omega
/-- one more digit, and it is one of 128 -/
theorem bl_dig (hd : dep < 3) (h1 : kyN s t dep A ≤ L) (h2 : L < kyN s t dep A + bw dep) : ∃ c, c < 128 ∧ kyN s t (dep + 1) (updN A dep c) ≤ L ∧ L < kyN s t (dep + 1) (updN A dep c) + bw (dep + 1) := by
  have hb := bw_s hd
  have h3 := bw_1 (dep := dep + 1)
  refine ⟨(L - kyN s t dep A) / bw (dep + 1), ?_, ?_, ?_⟩
  · refine Nat.div_lt_of_lt_mul ?_
    rw [Nat.mul_comm, ← hb]
    omega
  · rw [bl_ky hd]
    have := Nat.div_mul_le_self (L - kyN s t dep A) (bw (dep + 1))
    omega
  · rw [bl_ky hd]
    have := Nat.lt_div_mul_add (a := L - kyN s t dep A) (show 0 < bw (dep + 1) by omega)
    omega
theorem updN_lt (hA : ∀ i, i < dep → A i < 128) {c : Nat} (hc : c < 128) : ∀ i, i < dep + 1 → updN A dep c i < 128 := by
  intro i hi
  by_cases q : i = dep
  · rw [q, updN_s]; exact hc
  · rw [updN_n q]; exact hA i (by omega)
end BLK
section UNF4
variable {P T s t dep L : Nat} {tk pt : Nat → Nat → Nat} {mk B : Nat → Nat} {U : uS}
theorem uUn_cg {A : Nat → Nat} : ∀ n, (∀ i, i < n → A i = B i) → uUn U A n = uUn U B n := by
  intro n
  induction n with
  | zero => intro _; rfl
  | succ n ih =>
    intro h
    show uUn U A n ||| uPo U (A n) = uUn U B n ||| uPo U (B n)
    rw [ih (fun i hi => h i (by omega)), h n (by omega)]
theorem uUn_mono {A : Nat → Nat} {n k : Nat} (h : n ≤ k) : pcN (uUn U A n) ≤ pcN (uUn U A k) := pc_mono (fun i q => by
  obtain ⟨u, hu, w⟩ := (orS_tb _ _ _).mp q
  exact (orS_tb _ _ _).mpr ⟨u, by omega, w⟩)
/-- what can come fits, condition by condition -/
theorem uCd.fit (h : uCd P T tk pt mk U L) (hs : kSz L = s) (ht : kTr L = t) (hdn : dep < tnS P tk t) (hA : ∀ i, i ≤ dep → kAt L i = B i) (hpl : ∀ c, c < uC U → uPl U c < P) :
    B dep < uC U ∧ (∀ i, i < dep → B i < B dep) ∧ uFre P tk pt mk U (B dep) ∧ (∀ i, i < dep → uCo (tnS P tk) U (B i) (B dep)) ∧ uCn U B dep (uPl U (B dep)) < tk t (uPl U (B dep)) ∧ pcN (uUn U B (dep + 1)) < s := by
  obtain ⟨h1, h2, ⟨h3, h4, h5, h6⟩, h7⟩ := h
  rw [ht] at h2 h3 h4 h5 h6 h7
  have e := hA dep (Nat.le_refl _)
  have b1 : B dep < uC U := by rw [← e]; exact h3.2.1 dep hdn
  refine ⟨b1, fun i hi => ?_, by rw [← e]; exact h5 dep hdn, fun i hi => ?_, ?_, ?_⟩
  · rw [← hA i (by omega), ← e]; exact h4 i dep hi hdn
  · rw [← hA i (by omega), ← e]; exact h3.2.2 i dep hi hdn
  · rw [← h6 _ (hpl _ b1)]
    have e1 : uCn U B (dep + 1) (uPl U (B dep)) = uCn U B dep (uPl U (B dep)) + 1 := by
      unfold uCn
      rw [fb_ct_succ, if_pos (decide_eq_true rfl)]
    have e2 : uCn U (kAt L) (dep + 1) (uPl U (B dep)) = uCn U B (dep + 1) (uPl U (B dep)) := fb_ct_cong (fun i hi => by rw [hA i (by omega)])
    have e3 : uCn U (kAt L) (dep + 1) (uPl U (B dep)) ≤ uCn U (kAt L) (tnS P tk t) (uPl U (B dep)) := fb_ct_mono _ (by omega)
    omega
  · rw [← hs, h7]
    unfold uSz
    rw [← uUn_cg (A := kAt L) (dep + 1) (fun i hi => hA i (by omega))]
    have := uUn_mono (U := U) (A := kAt L) (show dep + 1 ≤ tnS P tk t by omega)
    omega
end UNF4
