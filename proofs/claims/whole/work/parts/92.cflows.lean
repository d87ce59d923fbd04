/-! The class Flows: contracts. -/
def iL (z : Int) : Int64 := Int64.ofInt z
def iI (z : Int) : Int32 := Int32.ofInt z
theorem iL_t {z : Int} (h1 : -9223372036854775808 ≤ z) (h2 : z < 9223372036854775808) : (iL z).toInt = z := by
  unfold iL
  rw [Int64.toInt_ofInt, fb_bmodL h1 h2]
theorem iI_t {z : Int} (h1 : -2147483648 ≤ z) (h2 : z < 2147483648) : (iI z).toInt = z := fb_ofI h1 h2
theorem iL_add (a b : Int) : iL a + iL b = iL (a + b) := (Int64.ofInt_add a b).symm
theorem iL_mul (a b : Int) : iL a * iL b = iL (a * b) := (Int64.ofInt_mul a b).symm
theorem iL_n {n : Nat} : iL (n : Int) = lN n := rfl
theorem w_I {x : Int32} : x.toInt64 = iL x.toInt := by
  rw [fa_eq64, Int32.toInt_toInt64, iL_t (by have := (fb_rng x).1; omega) (by have := (fb_rng x).2; omega)]
theorem w_n {n : Nat} (h : n < 2 ^ 31) : (nI n).toInt64 = lN n := by rw [w_I, tI h]; rfl
theorem w_sub {p t : Nat} (hp : p ≤ 9) (ht : t ≤ 9) : (nI p - nI t).toInt64 = iL ((p : Int) - (t : Int)) := by
  rw [w_I, i32_sub (by rw [tI (by omega), tI (by omega)]; omega) (by rw [tI (by omega), tI (by omega)]; omega), tI (by omega), tI (by omega)]
theorem n_L {z : Int} (h1 : -2147483648 ≤ z) (h2 : z < 2147483648) : (iL z).toInt32 = iI z := by
  rw [fa_eq, Int64.toInt_toInt32, iL_t (by omega) (by omega), iI_t h1 h2, fb_bmod h1 h2]
theorem n_Ln {n : Nat} (h : n < 2 ^ 31) : (lN n).toInt32 = nI n := by
  have := n_L (z := (n : Int)) (by omega) (by omega)
  rw [iL_n] at this
  rw [this, fa_eq, iI_t (by omega) (by omega), tI h]
theorem iI_le0 {z : Int} (h : z.natAbs ≤ 1000000000) : iI z ≤ 0 ↔ z ≤ 0 := by rw [fa_le, iI_t (by omega) (by omega)]; exact Iff.rfl
theorem iI_ge0 {z : Int} (h : z.natAbs ≤ 1000000000) : 0 ≤ iI z ↔ 0 ≤ z := by rw [fa_le, iI_t (by omega) (by omega)]; exact Iff.rfl
theorem iI_e0 {z : Int} (h : z.natAbs ≤ 1000000000) : iI z = 0 ↔ z = 0 := by rw [fa_eq, iI_t (by omega) (by omega)]; exact Iff.rfl
theorem iI_w {z : Int} (h : z.natAbs ≤ 1000000000) (hp : 0 ≤ z) : (iI z).toInt64 = lN z.natAbs := by
  rw [w_I, iI_t (by omega) (by omega), ← iL_n]
  congr 1
  omega
theorem iI_wn {z : Int} (h : z.natAbs ≤ 1000000000) (hp : z ≤ 0) : (-(iI z)).toInt64 = lN z.natAbs := by
  rw [w_I, fb_negI (by rw [iI_t (by omega) (by omega)]; omega), iI_t (by omega) (by omega), ← iL_n]
  congr 1
  omega
theorem iL_abs {z : Int} (h : z.natAbs < 2 ^ 62) : (if 0 < iL z then iL z else -(iL z)) = lN z.natAbs := by
  have e : (0 < iL z) ↔ 0 < z := by rw [fa_lt64, iL_t (by omega) (by omega)]; exact Iff.rfl
  by_cases q : 0 < z
  · rw [if_pos (e.mpr q), ← iL_n]
    congr 1
    omega
  · rw [if_neg (fun w => q (e.mp w)), show -(iL z) = iL (-z) from (Int64.ofInt_neg z).symm, ← iL_n]
    congr 1
    omega
noncomputable def dF (pl : Prop) (tk pt : Nat → Nat → Nat) (k e : Nat) : Int := cif pl ((pt e k : Int) - (tk e k : Int)) ((pt k e : Int) - (tk k e : Int))
theorem dF_9 {P T : Nat} {tk pt : Nat → Nat → Nat} {fi : Nat → Nat} (hk : okNet P T tk pt fi) (pl : Prop) (k e : Nat) : (dF pl tk pt k e).natAbs ≤ 9 := by
  unfold dF
  have h1 := hk.2.2.1; have h2 := hk.2.2.2.1
  by_cases q : pl
  · rw [cif_t q]; have := h1 e k; have := h2 e k; omega
  · rw [cif_f q]; have := h1 k e; have := h2 k e; omega
theorem chI_b {W : Nat} {D : Nat → Nat → Int} {row : Nat → Nat} {e : Nat} (hD : ∀ k e, (D k e).natAbs ≤ 9) (hr : ∀ k, k < W → row k ≤ 1000000001) : ∀ n, n ≤ W → -(n * 9000000009 : Int) ≤ fb_si (fun k => (row k : Int) * D k e) n ∧ fb_si (fun k => (row k : Int) * D k e) n ≤ n * 9000000009 := by
  intro n hn
  refine fb_si_bound (c := 9000000009) (by omega) (fun k hk => ?_)
  have h1 := hr k (by omega)
  have h2 : ((row k : Int) * D k e).natAbs ≤ 1000000001 * 9 := by
    rw [Int.natAbs_mul]
    exact Nat.mul_le_mul h1 (hD k e)
  show -9000000009 ≤ (row k : Int) * D k e ∧ (row k : Int) * D k e ≤ 9000000009
  omega
/-- the object, its two arrays of rows, widths -/
def fcB (m : mMem) (c W E : Nat) (pl : Prop) (ra rb : Nat) : Prop := (m.1 c = some (.inr 4) ∧ c ≠ 0) ∧ m.2.1 c 4 = .ref ra ∧ m.2.1 c 5 = .ref rb ∧ (m.1 ra = some (.inl (.int, 3000)) ∧ ra ≠ 0) ∧ (m.1 rb = some (.inl (.int, 3000)) ∧ rb ≠ 0) ∧ ((ra = 64 * c + 1 ∧ rb = 64 * c + 2) ∨ (ra = 64 * c + 2 ∧ rb = 64 * c + 1)) ∧ iF m c 3 = bz pl ∧ iF m c 11 = nI W ∧ iF m c 12 = nI E
def fcR (m : mMem) (ra W : Nat) (S : fwS) : Prop := ∀ r, r < S.1 → ∀ k, k < W → m.2.2.1 ra (r * 10 + k) = nI (S.2 r k)
section CFW
variable {d c n P T W E ra rb r e : Nat} {pl : Prop} {tk pt : Nat → Nat → Nat} {fi row : Nat → Nat} {S : fwS} {m : mMem} {Q : Option Value → mMem → Prop}
theorem fcB.to {A : Nat → Prop} {F : Nat → Nat → Prop} {m' : mMem} (h : fcB m c W E pl ra rb) (ht : mTo A F m m') (h1 : ¬ F c 4) (h2 : ¬ F c 5) (h3 : ¬ F c 3) (h4 : ¬ F c 11) (h5 : ¬ F c 12) : fcB m' c W E pl ra rb := by
  obtain ⟨a1, a2, a3, a4, a5, a6, a7, a8, a9⟩ := h
  exact ⟨ht.ob a1, by rw [ht.fl h1]; exact a2, by rw [ht.fl h2]; exact a3, ht.ob a4, ht.ob a5, a6, by rw [ht.nf h3]; exact a7, by rw [ht.nf h4]; exact a8, by rw [ht.nf h5]; exact a9⟩
theorem ev_changeOf {x2 : Nat} (hd : 2 ≤ d) (hT : mWT m) (hB : fcB m c W E pl ra rb) (hW : W ≤ 10) (hN : cNet m n P T tk pt fi) (hk : okNet P T tk pt fi) (hA : m.1 x2 = some (.inl (.int, 3000)) ∧ x2 ≠ 0) (hr : r < 300) (he : e < 10) (hv : ∀ k, k < W → m.2.2.1 x2 (r * 10 + k) = nI (row k)) (hv2 : ∀ k, k < W → row k ≤ 1000000001) (hQ : Q (some (.long (iL (chI W (dF pl tk pt) row e)))) m) : mEv d 83 [.ref c, .ref n, .ref x2, .int (nI r), .int (nI e)] m Q := by
  obtain ⟨a1, a2, a3, a4, a5, a6, a7, a8, a9⟩ := id hB
  refine mEv.at (by omega) G83 (Nat.le_of_ble_eq_true rfl) ?_
  refine bk83_0 hT a1 hN.1 hA ?_
  refine upto (e := W) (X := fun k => ∀ (x8 x9 : Option Value), mEs (d - 1) 83 c g83 (6, [some (.ref c), some (.ref n), some (.ref x2), some (.int (nI r)), some (.int (nI e)), some (.long (iL (fb_si (fun k => (row k : Int) * dF pl tk pt k e) k))), none, some (.int (nI k)), x8, x9], [], m) Q) ?_ ?_ 0 (Nat.zero_le _) _ _
  · intro x8 x9
    refine bk83_6 hT a1 hN.1 hA ?_
    rw [a8, nIle (by omega) (by omega)]
    exact ⟨fun _ => hQ, fun c => absurd (Nat.le_refl _) c⟩
  · intro k hk' ih x8 x9
    have h1 := hv2 k hk'
    refine bk83_6 hT a1 hN.1 hA ?_
    rw [a8, nIle (by omega) (by omega), l10, nI_mul, nI_add, nI_clamp (by omega), hv k hk', w_n (by omega), a7, bz_0]
    refine ⟨fun c => by omega, fun _ => ⟨(nIin_iff (by omega)).mpr (by omega), ?_⟩⟩
    rintro v rfl
    have fin : ∀ z : Int, z = dF pl tk pt k e → ∀ y : Int32, y.toInt64 = iL z → mEs (d - 1) 83 c g83 (57, [some (.ref c), some (.ref n), some (.ref x2), some (.int (nI r)), some (.int (nI e)), some (.long (iL (fb_si (fun k => (row k : Int) * dF pl tk pt k e) k))), none, some (.int (nI k)), some (.long (lN (row k))), none], [.int y, .long (lN (row k)), .long (iL (fb_si (fun k => (row k : Int) * dF pl tk pt k e) k))], m) Q := by
      intro z hz y hy
      refine bk83_57 hT a1 hN.1 hA ?_
      rw [hy, ← iL_n, iL_mul, iL_add, nIinc, hz, ← fb_si_succ]
      rintro v rfl v2 rfl
      exact ih _ _
    refine ⟨fun cp => ?_, fun cp => ?_⟩
    · refine ev_change (by omega) hT hN (by omega) he ?_
      refine fin ((pt k e : Int) - (tk k e : Int)) ?_ _ (w_sub (hk.2.2.2.1 k e) (hk.2.2.1 k e))
      unfold dF
      rw [cif_f cp]
    · refine ev_change (by omega) hT hN he (by omega) ?_
      refine bk83_46 hT a1 hN.1 hA ?_
      refine fin ((pt e k : Int) - (tk e k : Int)) ?_ _ (w_sub (hk.2.2.2.1 e k) (hk.2.2.1 e k))
      unfold dF
      rw [cif_t (Classical.not_not.mp cp)]
theorem ev_common (hd : 1 ≤ d) (hT : mWT m) {a b : Nat} (ha : a < 2 ^ 63) (hb : b < 2 ^ 63) (hQ : Q (some (.long (lN (Nat.gcd a b)))) m) : mEv d 86 [.long (lN a), .long (lN b)] m Q := by
  refine mEv.at (by omega) G86 (Nat.le_of_ble_eq_true rfl) ?_
  refine bk86_0 hT ?_
  have go : ∀ f n x y (x9 x10 : Option Value), n + f = 100 → x < 2 ^ 63 → y < 2 ^ 63 → eE f x y → Nat.gcd x y = Nat.gcd a b → mEs (d - 1) 86 (mBase [.long (lN a), .long (lN b)]) g86 (9, [some (.long (lN a)), none, some (.long (lN b)), none, some (.long (lN x)), none, some (.long (lN y)), none, some (.int (nI n)), x9, x10], [], m) Q := by
    intro f
    induction f with
    | zero =>
      intro n x y x9 x10 hn hx hy hE hg
      have hy0 : y = 0 := hE
      subst hy0
      rw [Nat.gcd_zero_right] at hg
      rw [← hg] at hQ
      refine bk86_9 hT ?_
      rw [l100, nIle (by omega) (by omega)]
      exact ⟨fun _ => hQ, fun c => by omega⟩
    | succ f ih =>
      intro n x y x9 x10 hn hx hy hE hg
      refine bk86_9 hT ?_
      rw [l100, nIle (by omega) (by omega), lg_cmp_eq, show (0 : Int64) = lN 0 from rfl, pk_lEQ hy (by decide), nIinc]
      refine ⟨fun c => by omega, fun _ => ⟨fun c0 => ?_, fun c0 => ⟨fun z => c0 ((pk_lEQ hy (by decide)).mp z), ?_⟩⟩⟩
      · subst c0
        rw [Nat.gcd_zero_right] at hg
        rw [← hg] at hQ
        exact hQ
      · rw [pk_lRem hx (by omega) hy]
        rintro v rfl v2 rfl
        have hm : x % y < y := Nat.mod_lt _ (by omega)
        refine ih (n + 1) y (x % y) _ _ (by omega) hy (by omega) (hE.resolve_left c0) ?_
        rw [← gcd_st]; exact hg
  exact go 100 0 a b _ _ rfl ha hb (eE_100 a hb) rfl
theorem ev_copyUn (hd : 2 ≤ d) (hT : mWT m) (hB : fcB m c W E pl ra rb) (hW : W ≤ 10) (h1 : iF m c 1 = nI S.1) (hS : fOk W (dF pl tk pt) S) (hR : fcR m ra W S) (hC : ∀ r, r < S.1 → m.2.2.1 (64 * c + 3) r = iI (chI W (dF pl tk pt) (S.2 r) e))
    (hQ : ∀ m', mTo (fun k => k = rb) (fun _ _ => False) m m' → fcR m' rb W (fU W (dF pl tk pt) S e S.1) → Q (some (.int (nI (fU W (dF pl tk pt) S e S.1).1))) m') : mEv d 84 [.ref c] m Q := by
  obtain ⟨a1, a2, a3, a4, a5, a6, a7, a8, a9⟩ := id hB
  have h300 := hS.1
  refine mEv.at (by omega) G84 (Nat.le_of_ble_eq_true rfl) ?_
  refine bk84_0 hT a1 ?_
  have hle : ∀ n, (fU W (dF pl tk pt) S e n).1 ≤ n := fun n => by rw [fU_n]; exact cct_le _
  refine upto (e := S.1) (X := fun r => ∀ m', mTo (fun k => k = rb) (fun _ _ => False) m m' → fcR m' rb W (fU W (dF pl tk pt) S e r) → mEs (d - 1) 84 c g84 (4, [some (.ref c), some (.int (nI (fU W (dF pl tk pt) S e r).1)), some (.int (nI r))], [], m') Q) ?_ ?_ 0 (Nat.zero_le _) m (mTo.rf hT) (fun r hr => absurd hr (Nat.not_lt_zero _))
  · intro m' T' hR'
    refine bk84_4 T'.wt (T'.ob a1) (by omega) ?_
    rw [T'.nf id, h1, nIle (by omega) (by omega)]
    exact ⟨fun _ => hQ m' T' hR', fun c => absurd (Nat.le_refl _) c⟩
  · intro r hr ih m' T' hR'
    have hc := (hS.2.1 r hr).2.2.1 e
    have hl := hle r
    refine bk84_4 T'.wt (T'.ob a1) (by omega) ?_
    rw [T'.nf id, h1, nIle (by omega) (by omega), nI_clamp (by omega), T'.i (by omega), hC r hr, iI_e0 hc, nIinc, nIinc]
    refine ⟨fun c => by omega, fun _ => ⟨(nIin_iff (by omega)).mpr (by omega), fun c0 => ?_, fun c0 => ?_⟩⟩
    · rintro v rfl
      have e2 : fU W (dF pl tk pt) S e (r + 1) = fU W (dF pl tk pt) S e r := if_neg c0
      rw [e2] at ih
      exact ih m' T' hR'
    · have e2 : fU W (dF pl tk pt) S e (r + 1) = fAp (fU W (dF pl tk pt) S e r) (S.2 r) := if_pos (Classical.not_not.mp c0)
      rw [e2] at ih
      refine ⟨ra, 3000, by rw [T'.fl id]; exact a2, T'.ob a4, rb, 3000, by rw [T'.fl id]; exact a3, T'.ob a5, ?_⟩
      simp only [c10c]
      rw [l10, nI_mul, nI_mul, nI_clamp (by omega), nI_clamp (by omega)]
      refine ⟨⟨nI_nlt0 (by omega), nI_nlt0 (by omega), by decide, by omega, by omega⟩, fun m2 em2 => ?_⟩
      obtain ⟨t2, ab⟩ := sI1 em2 T'.wt
      rintro v rfl v2 rfl
      refine ih m2 (T'.tr t2) (fun j hj k hk' => ?_)
      have hj' : j < (fU W (dF pl tk pt) S e r).1 + 1 := hj
      show _ = nI ((if j = (fU W (dF pl tk pt) S e r).1 then S.2 r else (fU W (dF pl tk pt) S e r).2 j) k)
      rw [ab]
      by_cases q : j = (fU W (dF pl tk pt) S e r).1
      · rw [if_pos q, q, cp_in (by omega) (by omega), show r * 10 + ((fU W (dF pl tk pt) S e r).1 * 10 + k - (fU W (dF pl tk pt) S e r).1 * 10) = r * 10 + k by omega, T'.i (by omega)]
        exact hR r hr k hk'
      · rw [if_neg q, cp_out (by omega)]
        exact hR' j (by omega) k hk'
def cap (v : Nat) : Nat := if 1000000001 < v then 1000000001 else v
theorem cap_le {v : Nat} : cap v ≤ 1000000001 := by unfold cap; split <;> omega
theorem jS_b {a b : Nat → Nat} {ca cb k : Nat} (h1 : a k ≤ 1000000000) (h2 : b k ≤ 1000000000) (h3 : ca ≤ 1000000000) (h4 : cb ≤ 1000000000) : jS a b ca cb k ≤ 2000000000000000000 := by
  unfold jS
  have := Nat.mul_le_mul h1 h4
  have := Nat.mul_le_mul h2 h3
  omega
theorem gF_le {f : Nat → Nat} {M : Nat} (h : ∀ k, f k ≤ M) : ∀ n, gF f n ≤ M := by
  intro n
  induction n with
  | zero => exact Nat.zero_le _
  | succ n ih =>
    show Nat.gcd (gF f n) (f n) ≤ M
    by_cases q : f n = 0
    · rw [q, Nat.gcd_zero_right]; exact ih
    · exact Nat.le_trans (Nat.gcd_le_right _ (by omega)) (h n)
theorem ev_join {a b M : Nat} (hd : 2 ≤ d) (hT : mWT m) (hB : fcB m c W E pl ra rb) (hW : W ≤ 10) (hS : fOk W (dF pl tk pt) S) (hR : fcR m ra W S) (hC : ∀ r, r < S.1 → m.2.2.1 (64 * c + 3) r = iI (chI W (dF pl tk pt) (S.2 r) e)) (ha : a < S.1) (hb : b < S.1) (hp : isP W (dF pl tk pt) S e a b) (hM : M < 300)
    (hQ : ∀ m', mTo (fun k => k = rb ∨ k = 64 * c + 7) (fun _ _ => False) m m' → (∀ j, j < M * 10 → m'.2.2.1 rb j = m.2.2.1 rb j) → (∀ k, k < W → m'.2.2.1 rb (M * 10 + k) = nI (cap (jn W (dF pl tk pt) S e a b k))) → Q none m') : mEv d 85 [.ref c, .int (nI a), .int (nI b), .int (nI M)] m Q := by
  obtain ⟨a1, a2, a3, a4, a5, a6, a7, a8, a9⟩ := id hB
  obtain ⟨h300, hrow, _⟩ := id hS
  obtain ⟨ra1, ra2, ra3, kz, kz1, kz2⟩ := hrow a ha
  obtain ⟨rb1, rb2, rb3, _⟩ := hrow b hb
  have hpa := hp.1
  have hpb := hp.2
  have hca := ra3 e
  have hcb := rb3 e
  have eca := hC a ha
  have ecb := hC b hb
  have ejn : jn W (dF pl tk pt) S e a b = jR W (S.2 a) (S.2 b) (chI W (dF pl tk pt) (S.2 a) e).natAbs (chI W (dF pl tk pt) (S.2 b) e).natAbs := rfl
  generalize chI W (dF pl tk pt) (S.2 a) e = ca at *
  generalize chI W (dF pl tk pt) (S.2 b) e = cb at *
  have hsb : ∀ k, jS (S.2 a) (S.2 b) ca.natAbs cb.natAbs k ≤ 2000000000000000000 := fun k => jS_b (ra2 k) (rb2 k) hca hcb
  have hgl := gF_le hsb
  refine mEv.at (by omega) G85 (Nat.le_of_ble_eq_true rfl) ?_
  refine bk85_0 hT a1 ?_
  refine upto (e := W) (X := fun k => ∀ (x7 x8 : Option Value) (m' : mMem), mTo (fun k => k = 64 * c + 7) (fun _ _ => False) m m' → (∀ j, j < k → m'.2.2.2.1 (64 * c + 7) j = lN (jS (S.2 a) (S.2 b) ca.natAbs cb.natAbs j)) → mEs (d - 1) 85 c g85 (6, [some (.ref c), some (.int (nI a)), some (.int (nI b)), some (.int (nI M)), some (.long (lN (gF (jS (S.2 a) (S.2 b) ca.natAbs cb.natAbs) k))), none, some (.int (nI k)), x7, x8], [], m') Q) ?_ ?_ 0 (Nat.zero_le _) _ _ m (mTo.rf hT) (fun j hj => absurd hj (Nat.not_lt_zero _))
  · intro x7 x8 m' T' hJ
    refine bk85_6 T'.wt (T'.ob a1) ?_
    rw [T'.nf id, a8, nIle (by omega) (by omega)]
    refine ⟨fun _ => ?_, fun c => absurd (Nat.le_refl _) c⟩
    have hg0 : 0 < gF (jS (S.2 a) (S.2 b) ca.natAbs cb.natAbs) W := by
      refine gF_pos kz1 ?_
      unfold jS
      have : 0 < S.2 a kz * cb.natAbs := Nat.mul_pos (by omega) (by omega)
      omega
    have hg1 := hgl W
    have hj1 : ∀ k, k < W → jS (S.2 a) (S.2 b) ca.natAbs cb.natAbs k / gF (jS (S.2 a) (S.2 b) ca.natAbs cb.natAbs) W = jn W (dF pl tk pt) S e a b k := fun k _ => by rw [ejn]; rfl
    generalize gF (jS (S.2 a) (S.2 b) ca.natAbs cb.natAbs) W = g at *
    refine upto (e := W) (X := fun k => ∀ (x7 x8 : Option Value) (m2 : mMem), mTo (fun k => k = rb ∨ k = 64 * c + 7) (fun _ _ => False) m m2 → (∀ j, j < W → m2.2.2.2.1 (64 * c + 7) j = lN (jS (S.2 a) (S.2 b) ca.natAbs cb.natAbs j)) → (∀ j, j < M * 10 → m2.2.2.1 rb j = m.2.2.1 rb j) → (∀ j, j < k → m2.2.2.1 rb (M * 10 + j) = nI (cap (jn W (dF pl tk pt) S e a b j))) → mEs (d - 1) 85 c g85 (89, [some (.ref c), some (.int (nI a)), some (.int (nI b)), some (.int (nI M)), some (.long (lN g)), none, some (.int (nI k)), x7, x8], [], m2) Q) ?_ ?_ 0 (Nat.zero_le _) _ _ m' (T'.mono (fun k h => Or.inr h) (fun _ _ h => h)) hJ (fun j hj => by rw [T'.i (by omega)]) (fun j hj => absurd hj (Nat.not_lt_zero _))
    · intro x7 x8 m2 T2 hJ2 h1 h2
      refine bk85_89 T2.wt (T2.ob a1) (by omega) ?_
      rw [T2.nf id, a8, nIle (by omega) (by omega)]
      exact ⟨fun _ => hQ m2 T2 h1 h2, fun c => absurd (Nat.le_refl _) c⟩
    · intro k hk' ih x7 x8 m2 T2 hJ2 h1 h2
      have hsk := hsb k
      have hjk := hj1 k hk'
      have hjle : jn W (dF pl tk pt) S e a b k ≤ 2000000000000000000 := by rw [← hjk]; exact Nat.le_trans (Nat.div_le_self _ _) hsk
      have capL : ∀ v, v ≤ 2000000000000000000 → (if 1000000001 < lN v then 1000000001 else lN v).toInt32 = nI (cap v) := by
        intro v hv
        have ev : ((1000000001 : Int64) < lN v) ↔ 1000000001 < v := pk_lLT (a := 1000000001) (by omega) (by omega)
        unfold cap
        by_cases q : 1000000001 < v
        · rw [if_pos (ev.mpr q), if_pos q]
          exact n_Ln (n := 1000000001) (by omega)
        · rw [if_neg (fun z => q (ev.mp z)), if_neg q]
          exact n_Ln (by omega)
      have hrb := T2.ob a5
      have hfb : m2.2.1 c 5 = .ref rb := by rw [T2.fl id]; exact a3
      have nxt : ∀ (x7 x8 : Option Value) (m3 : mMem), m3 = mSetI m2 rb (upd (m2.2.2.1 rb) (M * 10 + k) (nI (cap (jn W (dF pl tk pt) S e a b k)))) → mEs (d - 1) 85 c g85 (89, [some (.ref c), some (.int (nI a)), some (.int (nI b)), some (.int (nI M)), some (.long (lN g)), none, some (.int (nI (k + 1))), x7, x8], [], m3) Q := by
        intro x7 x8 m3 em3
        obtain ⟨t3, ab⟩ := sI1 em3 T2.wt
        refine ih _ _ m3 (T2.tr (t3.mono (fun k h => Or.inl h) (fun _ _ h => h.elim))) (fun j hj => ?_) (fun j hj => ?_) (fun j hj => ?_)
        · rw [em3]; exact hJ2 j hj
        · rw [ab, up_n (by omega)]; exact h1 j hj
        · rw [ab]
          by_cases q : j = k
          · subst q; rw [up_s]
          · rw [up_n (by omega)]; exact h2 j (by omega)
      refine bk85_89 T2.wt (T2.ob a1) (by omega) ?_
      rw [T2.nf id, a8, nIle (by omega) (by omega), nI_clamp (by omega), hJ2 k hk', lg_cmp_le, show (1 : Int64) = lN 1 from rfl, pk_lLE (by omega) (by decide), nIinc]
      refine ⟨fun c => by omega, fun _ => ⟨fun cg => ⟨(nIin_iff (by omega)).mpr (by omega), ?_⟩, fun cg => ⟨(nIin_iff (by omega)).mpr (by omega), ?_, ?_⟩⟩⟩
      · rintro v rfl
        have hg' : g = 1 := by omega
        rw [hg', Nat.div_one] at hjk
        rw [hjk, capL _ hjle, l10, nI_mul, nI_add, nI_clamp (by omega)]
        refine ⟨rb, 3000, hfb, hrb, (nIin_iff (by omega)).mpr (by omega), fun m3 em3 => ?_⟩
        rintro v rfl
        exact nxt _ _ m3 em3
      · intro z
        have := (pk_lEQ (a := g) (b := 0) (by omega) (by decide)).mp z
        omega
      · rw [pk_lDiv (by omega) hg0 (by omega), hjk]
        rintro v rfl
        rw [capL _ hjle, l10, nI_mul, nI_add, nI_clamp (by omega)]
        refine ⟨rb, 3000, hfb, hrb, (nIin_iff (by omega)).mpr (by omega), fun m3 em3 => ?_⟩
        rintro v rfl
        exact nxt _ _ m3 em3
  · intro k hk' ih x7 x8 m' T' hJ
    have hsk := hsb k
    have g1 := ra2 k
    have g2 := rb2 k
    have hgk := hgl k
    have hra := T'.ob a4
    have hfa : m'.2.1 c 4 = .ref ra := by rw [T'.fl id]; exact a2
    refine bk85_6 T'.wt (T'.ob a1) ?_
    rw [T'.nf id, a8, nIle (by omega) (by omega)]
    refine ⟨fun c => by omega, fun _ => ⟨ra, 3000, hfa, hra, ?_⟩⟩
    rw [l10, nI_mul, nI_add, nI_mul, nI_add, nI_clamp (by omega), nI_clamp (by omega), nI_clamp (by omega), nI_clamp (by omega), nI_clamp (by omega)]
    refine ⟨(nIin_iff (by omega)).mpr (by omega), (nIin_iff (by omega)).mpr (by omega), ra, 3000, hfa, hra, (nIin_iff (by omega)).mpr (by omega), (nIin_iff (by omega)).mpr (by omega), (nIin_iff (by omega)).mpr (by omega), fun m2 em2 => ⟨(nIin_iff (by omega)).mpr (by omega), ?_⟩⟩
    rw [T'.i (by omega), hR a ha k hk', hR b hb k hk', T'.i (by omega), eca, ecb, w_n (by omega), w_n (by omega), iI_w hca (by omega), iI_wn hcb (by omega), ← iL_n, ← iL_n, ← iL_n, ← iL_n, iL_mul, iL_mul, iL_add, ← Int.natCast_mul, ← Int.natCast_mul, ← Int.natCast_add, iL_n] at em2
    have t2 : mTo (fun k => k = 64 * c + 7) (fun _ _ => False) m' m2 := by rw [em2]; exact (mTo.rf T'.wt).sJ rfl
    have e7 : m2.2.2.2.1 (64 * c + 7) = vp_updL (m'.2.2.2.1 (64 * c + 7)) k (lN (jS (S.2 a) (S.2 b) ca.natAbs cb.natAbs k)) := by rw [em2, rdJ_same]; rfl
    have e7k : m2.2.2.2.1 (64 * c + 7) k = lN (jS (S.2 a) (S.2 b) ca.natAbs cb.natAbs k) := by rw [e7, upL_s]
    rw [e7k]
    refine ev_common (by omega) t2.wt (by omega) (by omega) ?_
    refine bk85_78 t2.wt (t2.ob (T'.ob a1)) ?_
    rw [nIinc]
    rintro v rfl
    refine ih _ _ m2 (T'.tr t2) (fun j hj => ?_)
    rw [e7]
    by_cases q : j = k
    · subst q; rw [upL_s]
    · rw [upL_n q]; exact hJ j (by omega)
theorem ev_tooGreat {M : Nat} (hd : 3 ≤ d) (hT : mWT m) (hB : fcB m c W E pl ra rb) (hW : W ≤ 10) (hE : E ≤ 10) (hN : cNet m n P T tk pt fi) (hk : okNet P T tk pt fi) (hM : M < 300) (hv : ∀ k, k < W → m.2.2.1 rb (M * 10 + k) = nI (cap (row k))) (hQ : Q (some (.int (bz (gtR W E (dF pl tk pt) row)))) m) : mEv d 87 [.ref c, .ref n, .int (nI M)] m Q := by
  obtain ⟨a1, a2, a3, a4, a5, a6, a7, a8, a9⟩ := id hB
  refine mEv.at (by omega) G87 (Nat.le_of_ble_eq_true rfl) ?_
  refine bk87_0 hT a1 hN.1 ?_
  refine upto (e := W) (X := fun k => (∀ j, j < k → ¬ 1000000000 < row j) → mEs (d - 1) 87 c g87 (2, [some (.ref c), some (.ref n), some (.int (nI M)), some (.int (nI k))], [], m) Q) ?_ ?_ 0 (Nat.zero_le _) (fun j hj => absurd hj (Nat.not_lt_zero _))
  · intro hq
    have hrow : ∀ k, k < W → row k ≤ 1000000000 := fun k hk' => Nat.le_of_not_lt (hq k hk')
    refine bk87_2 hT a1 hN.1 ?_
    rw [a8, nIle (by omega) (by omega)]
    refine ⟨fun _ => ?_, fun c => absurd (Nat.le_refl _) c⟩
    refine upto (e := E) (X := fun e => (∀ j, j < e → ¬ 1000000000 < (chI W (dF pl tk pt) row j).natAbs) → mEs (d - 1) 87 c g87 (36, [some (.ref c), some (.ref n), some (.int (nI M)), some (.int (nI e))], [], m) Q) ?_ ?_ 0 (Nat.zero_le _) (fun j hj => absurd hj (Nat.not_lt_zero _))
    · intro hq2
      refine bk87_36 hT a1 hN.1 ?_
      rw [a9, nIle (by omega) (by omega)]
      rw [bz_f (C := gtR W E (dF pl tk pt) row) (fun z => z.elim (fun ⟨k, h1, h2⟩ => hq k h1 h2) (fun ⟨e, h1, h2⟩ => hq2 e h1 h2))] at hQ
      exact ⟨fun _ => hQ, fun c => absurd (Nat.le_refl _) c⟩
    · intro e he ih hq2
      refine bk87_36 hT a1 hN.1 ?_
      rw [a9, nIle (by omega) (by omega)]
      refine ⟨fun c => by omega, fun _ => ⟨rb, 3000, a3, a5, ?_⟩⟩
      refine ev_changeOf (row := row) (by omega) hT hB hW hN hk a5 hM (by omega) (fun k hk' => ?_) (fun k hk' => by have := hrow k hk'; omega) ?_
      · rw [hv k hk']
        unfold cap
        rw [if_neg (by have := hrow k hk'; omega)]
      · have hb := chI_b (W := W) (D := dF pl tk pt) (row := row) (e := e) (dF_9 hk pl) (fun k hk' => by have := hrow k hk'; omega) W (Nat.le_refl _)
        have hb' : (chI W (dF pl tk pt) row e).natAbs < 2 ^ 62 := by
          unfold chI
          have : (W : Int) * 9000000009 ≤ 90000000090 := by omega
          omega
        refine bk87_55 hT a1 hN.1 (by omega) ?_
        rw [iL_abs hb', lg_cmp_le, show (1000000000 : Int64) = lN 1000000000 from rfl, pk_lLE (by omega) (by decide), nIinc]
        refine ⟨fun c1 => ?_, fun c1 => ?_⟩
        · rintro v rfl
          refine ih (fun j hj => ?_)
          by_cases q : j = e
          · subst q; omega
          · exact hq2 j (by omega)
        · rw [bz_t (C := gtR W E (dF pl tk pt) row) (Or.inr ⟨e, he, by omega⟩)] at hQ; exact hQ
  · intro k hk' ih hq
    have hc := cap_le (v := row k)
    refine bk87_2 hT a1 hN.1 ?_
    rw [a8, nIle (by omega) (by omega)]
    refine ⟨fun c => by omega, fun _ => ⟨rb, 3000, a3, a5, ?_⟩⟩
    rw [l10, nI_mul, nI_add, nI_clamp (by omega), hv k hk', show (1000000000 : Int32) = nI 1000000000 from rfl, nIle (by omega) (by omega), nIinc]
    have e2 : cap (row k) ≤ 1000000000 ↔ ¬ 1000000000 < row k := by unfold cap; split <;> omega
    refine ⟨(nIin_iff (by omega)).mpr (by omega), fun c1 => ?_, fun c1 => ?_⟩
    · rintro v rfl
      refine ih (fun j hj => ?_)
      by_cases q : j = k
      · subst q; exact e2.mp c1
      · exact hq j (by omega)
    · rw [bz_t (C := gtR W E (dF pl tk pt) row) (Or.inl ⟨k, hk', Classical.byContradiction fun z => c1 (e2.mpr z)⟩)] at hQ; exact hQ
end CFW
