/-! FLOWS in plain form. -/
def chI (W : Nat) (D : Nat → Nat → Int) (R : Nat → Nat) (e : Nat) : Int := fb_si (fun k => (R k : Int) * D k e) W
abbrev fwS : Type := Nat × (Nat → Nat → Nat)
def fAp (S : fwS) (row : Nat → Nat) : fwS := (S.1 + 1, fun j => if j = S.1 then row else S.2 j)
def jS (a b : Nat → Nat) (ca cb : Nat) (k : Nat) : Nat := a k * cb + b k * ca
def gF (f : Nat → Nat) : Nat → Nat
  | 0 => 0
  | k + 1 => Nat.gcd (gF f k) (f k)
def jR (W : Nat) (a b : Nat → Nat) (ca cb k : Nat) : Nat := jS a b ca cb k / gF (jS a b ca cb) W
def jn (W : Nat) (D : Nat → Nat → Int) (S : fwS) (e a b : Nat) : Nat → Nat := jR W (S.2 a) (S.2 b) (chI W D (S.2 a) e).natAbs (chI W D (S.2 b) e).natAbs
def fU (W : Nat) (D : Nat → Nat → Int) (S : fwS) (e : Nat) : Nat → fwS
  | 0 => (0, fun _ _ => 0)
  | r + 1 => if chI W D (S.2 r) e = 0 then fAp (fU W D S e r) (S.2 r) else fU W D S e r
def isP (W : Nat) (D : Nat → Nat → Int) (S : fwS) (e a b : Nat) : Prop := 0 < chI W D (S.2 a) e ∧ chI W D (S.2 b) e < 0
noncomputable def fB (W : Nat) (D : Nat → Nat → Int) (S : fwS) (e a : Nat) (A : fwS) : Nat → fwS
  | 0 => A
  | b + 1 => cif (isP W D S e a b) (fAp (fB W D S e a A b) (jn W D S e a b)) (fB W D S e a A b)
noncomputable def fA (W : Nat) (D : Nat → Nat → Int) (S : fwS) (e : Nat) : Nat → fwS
  | 0 => fU W D S e S.1
  | a + 1 => fB W D S e a (fA W D S e a) S.1
/-- a row that is too great -/
def gtR (W E : Nat) (D : Nat → Nat → Int) (row : Nat → Nat) : Prop := (∃ k, k < W ∧ 1000000000 < row k) ∨ ∃ e, e < E ∧ 1000000000 < (chI W D row e).natAbs
def gtP (W E : Nat) (D : Nat → Nat → Int) (S : fwS) (e : Nat) : Prop := ∃ a b, a < S.1 ∧ b < S.1 ∧ isP W D S e a b ∧ gtR W E D (jn W D S e a b)
def farS (W E : Nat) (D : Nat → Nat → Int) (S : fwS) (e : Nat) : Prop := 300 < (fA W D S e S.1).1 ∨ gtP W E D S e
noncomputable def uB (W : Nat) (row : Nat → Nat) : Nat := bs (fun k => row k ≠ 0) W
def beat (W : Nat) (S : fwS) (r : Nat) : Prop := ∃ o, o < S.1 ∧ sbN (uB W (S.2 o)) (uB W (S.2 r)) ∧ (uB W (S.2 o) ≠ uB W (S.2 r) ∨ o < r)
noncomputable def fD (W : Nat) (S : fwS) : Nat → fwS
  | 0 => (0, fun _ _ => 0)
  | r + 1 => cif (beat W S r) (fD W S r) (fAp (fD W S r) (S.2 r))
noncomputable def fSt (W : Nat) (D : Nat → Nat → Int) (S : fwS) (e : Nat) : fwS := fD W (fA W D S e S.1) (fA W D S e S.1).1
def f00 (W : Nat) : fwS := (W, fun r k => if k = r then 1 else 0)
noncomputable def fZ (W E : Nat) (D : Nat → Nat → Int) : Nat → Option fwS
  | 0 => some (f00 W)
  | e + 1 => match fZ W E D e with
    | none => none
    | some S => cif (farS W E D S e) none (some (fSt W D S e))
/-- a row as it may be -/
def rowOk (W : Nat) (D : Nat → Nat → Int) (row : Nat → Nat) : Prop := (∀ k, W ≤ k → row k = 0) ∧ (∀ k, row k ≤ 1000000000) ∧ (∀ e, (chI W D row e).natAbs ≤ 1000000000) ∧ ∃ k, k < W ∧ row k ≠ 0
def fOk (W : Nat) (D : Nat → Nat → Int) (S : fwS) : Prop := S.1 ≤ 300 ∧ (∀ r, r < S.1 → rowOk W D (S.2 r)) ∧ ∀ r q, r < S.1 → q < S.1 → uB W (S.2 r) = uB W (S.2 q) → r = q
section FW
variable {W E e : Nat} {D : Nat → Nat → Int} {S : fwS} {X : (Nat → Nat) → Prop}
theorem fAp_all {A : fwS} {row : Nat → Nat} (h : ∀ j, j < A.1 → X (A.2 j)) (h2 : X row) : ∀ j, j < (fAp A row).1 → X ((fAp A row).2 j) := by
  intro j hj
  have hj' : j < A.1 + 1 := hj
  show X (if j = A.1 then row else A.2 j)
  by_cases q : j = A.1
  · rw [if_pos q]; exact h2
  · rw [if_neg q]; exact h j (by omega)
theorem fU_all (h : ∀ r, r < S.1 → X (S.2 r)) : ∀ n, n ≤ S.1 → ∀ j, j < (fU W D S e n).1 → X ((fU W D S e n).2 j) := by
  intro n
  induction n with
  | zero => intro _ j hj; exact absurd hj (Nat.not_lt_zero _)
  | succ n ih =>
    intro hn j hj
    have i2 := ih (by omega)
    rw [show fU W D S e (n + 1) = if chI W D (S.2 n) e = 0 then fAp (fU W D S e n) (S.2 n) else fU W D S e n from rfl] at hj ⊢
    by_cases q : chI W D (S.2 n) e = 0
    · rw [if_pos q] at hj ⊢
      exact fAp_all i2 (h n (by omega)) j hj
    · rw [if_neg q] at hj ⊢
      exact i2 j hj
theorem fB_all {A : fwS} {a : Nat} (h0 : ∀ j, j < A.1 → X (A.2 j)) : ∀ n, (∀ b, b < n → isP W D S e a b → X (jn W D S e a b)) → ∀ j, j < (fB W D S e a A n).1 → X ((fB W D S e a A n).2 j) := by
  intro n
  induction n with
  | zero => intro _ j hj; exact h0 j hj
  | succ n ih =>
    intro h j hj
    have i2 := ih (fun b hb => h b (by omega))
    rw [show fB W D S e a A (n + 1) = cif (isP W D S e a n) (fAp (fB W D S e a A n) (jn W D S e a n)) (fB W D S e a A n) from rfl] at hj ⊢
    by_cases q : isP W D S e a n
    · rw [cif_t q] at hj ⊢
      exact fAp_all i2 (h n (by omega) q) j hj
    · rw [cif_f q] at hj ⊢
      exact i2 j hj
theorem fA_all (h : ∀ r, r < S.1 → X (S.2 r)) : ∀ n, n ≤ S.1 → (∀ a b, a < n → b < S.1 → isP W D S e a b → X (jn W D S e a b)) → ∀ j, j < (fA W D S e n).1 → X ((fA W D S e n).2 j) := by
  intro n
  induction n with
  | zero => intro _ _ j hj; exact fU_all h S.1 (Nat.le_refl _) j hj
  | succ n ih =>
    intro hn h2
    exact fB_all (ih (by omega) (fun a b ha => h2 a b (by omega))) S.1 (fun b hb => h2 n b (by omega) hb)
theorem fD_all (h : ∀ r, r < S.1 → X (S.2 r)) : ∀ n, n ≤ S.1 → (∀ j, j < (fD W S n).1 → X ((fD W S n).2 j)) ∧ (fD W S n).1 ≤ n := by
  intro n
  induction n with
  | zero => intro _; exact ⟨fun j hj => absurd hj (Nat.not_lt_zero _), Nat.le_refl _⟩
  | succ n ih =>
    intro hn
    obtain ⟨i1, i2⟩ := ih (by omega)
    rw [show fD W S (n + 1) = cif (beat W S n) (fD W S n) (fAp (fD W S n) (S.2 n)) from rfl]
    by_cases q : beat W S n
    · rw [cif_t q]; exact ⟨i1, by omega⟩
    · rw [cif_f q]
      exact ⟨fAp_all i1 (h n (by omega)), by show (fD W S n).1 + 1 ≤ n + 1; omega⟩
-- how many
theorem fU_n : ∀ n, (fU W D S e n).1 = cct (fun r => chI W D (S.2 r) e = 0) n := by
  intro n
  induction n with
  | zero => rfl
  | succ n ih =>
    rw [show fU W D S e (n + 1) = if chI W D (S.2 n) e = 0 then fAp (fU W D S e n) (S.2 n) else fU W D S e n from rfl]
    by_cases q : chI W D (S.2 n) e = 0
    · rw [if_pos q, cct_t (C := fun r => chI W D (S.2 r) e = 0) q]
      show (fU W D S e n).1 + 1 = _
      rw [ih]
    · rw [if_neg q, cct_f (C := fun r => chI W D (S.2 r) e = 0) q, ih]
theorem fB_n {A : fwS} {a : Nat} (ha : 0 < chI W D (S.2 a) e) : ∀ n, (fB W D S e a A n).1 = A.1 + cct (fun r => chI W D (S.2 r) e < 0) n := by
  intro n
  induction n with
  | zero => rfl
  | succ n ih =>
    rw [show fB W D S e a A (n + 1) = cif (isP W D S e a n) (fAp (fB W D S e a A n) (jn W D S e a n)) (fB W D S e a A n) from rfl]
    by_cases q : chI W D (S.2 n) e < 0
    · rw [cif_t ⟨ha, q⟩, cct_t (C := fun r => chI W D (S.2 r) e < 0) q]
      show (fB W D S e a A n).1 + 1 = _
      rw [ih]; rfl
    · rw [cif_f (fun z => q z.2), cct_f (C := fun r => chI W D (S.2 r) e < 0) q, ih]
theorem fB_0 {A : fwS} {a : Nat} (ha : ¬ 0 < chI W D (S.2 a) e) : ∀ n, fB W D S e a A n = A := by
  intro n
  induction n with
  | zero => rfl
  | succ n ih =>
    rw [show fB W D S e a A (n + 1) = cif (isP W D S e a n) (fAp (fB W D S e a A n) (jn W D S e a n)) (fB W D S e a A n) from rfl, cif_f (fun z => ha z.1), ih]
theorem fA_n : ∀ n, (fA W D S e n).1 = cct (fun r => chI W D (S.2 r) e = 0) S.1 + cct (fun r => 0 < chI W D (S.2 r) e) n * cct (fun r => chI W D (S.2 r) e < 0) S.1 := by
  intro n
  induction n with
  | zero =>
    show (fU W D S e S.1).1 = _ + 0 * _
    rw [fU_n, Nat.zero_mul]; rfl
  | succ n ih =>
    show (fB W D S e n (fA W D S e n) S.1).1 = _
    by_cases q : 0 < chI W D (S.2 n) e
    · rw [fB_n q, ih, cct_t (C := fun r => 0 < chI W D (S.2 r) e) q, Nat.add_mul, Nat.one_mul, Nat.add_assoc]
    · rw [fB_0 q, ih, cct_f (C := fun r => 0 < chI W D (S.2 r) e) q]
theorem three_n : ∀ n, cct (fun r => chI W D (S.2 r) e = 0) n + cct (fun r => 0 < chI W D (S.2 r) e) n + cct (fun r => chI W D (S.2 r) e < 0) n = n := by
  intro n
  induction n with
  | zero => rfl
  | succ n ih =>
    rcases Int.lt_trichotomy (chI W D (S.2 n) e) 0 with q | q | q
    · rw [cct_f (C := fun r => chI W D (S.2 r) e = 0) (by omega), cct_f (C := fun r => 0 < chI W D (S.2 r) e) (by omega), cct_t (C := fun r => chI W D (S.2 r) e < 0) q]; omega
    · rw [cct_t (C := fun r => chI W D (S.2 r) e = 0) q, cct_f (C := fun r => 0 < chI W D (S.2 r) e) (by omega), cct_f (C := fun r => chI W D (S.2 r) e < 0) (by omega)]; omega
    · rw [cct_f (C := fun r => chI W D (S.2 r) e = 0) (by omega), cct_t (C := fun r => 0 < chI W D (S.2 r) e) q, cct_f (C := fun r => chI W D (S.2 r) e < 0) (by omega)]; omega
theorem fB_mono {A : fwS} {a : Nat} {i j : Nat} (h : i ≤ j) : (fB W D S e a A i).1 ≤ (fB W D S e a A j).1 := by
  obtain ⟨k, rfl⟩ : ∃ k, j = i + k := ⟨j - i, by omega⟩
  induction k with
  | zero => exact Nat.le_refl _
  | succ k ih =>
    refine Nat.le_trans (ih (by omega)) ?_
    show _ ≤ (cif (isP W D S e a (i + k)) (fAp (fB W D S e a A (i + k)) (jn W D S e a (i + k))) (fB W D S e a A (i + k))).1
    by_cases q : isP W D S e a (i + k)
    · rw [cif_t q]; show _ ≤ (fB W D S e a A (i + k)).1 + 1; omega
    · rw [cif_f q]; exact Nat.le_refl _
theorem fA_mono {i j : Nat} (h : i ≤ j) : (fA W D S e i).1 ≤ (fA W D S e j).1 := by
  obtain ⟨k, rfl⟩ : ∃ k, j = i + k := ⟨j - i, by omega⟩
  induction k with
  | zero => exact Nat.le_refl _
  | succ k ih => exact Nat.le_trans (ih (by omega)) (fB_mono (i := 0) (Nat.zero_le _))
-- joining
theorem gF_dvd {f : Nat → Nat} : ∀ n k, k < n → gF f n ∣ f k := by
  intro n
  induction n with
  | zero => intro k hk; exact absurd hk (Nat.not_lt_zero _)
  | succ n ih =>
    intro k hk
    show Nat.gcd (gF f n) (f n) ∣ f k
    by_cases q : k = n
    · rw [q]; exact Nat.gcd_dvd_right _ _
    · exact Nat.dvd_trans (Nat.gcd_dvd_left _ _) (ih k (by omega))
theorem gF_pos {f : Nat → Nat} {n k : Nat} (hk : k < n) (h : f k ≠ 0) : 0 < gF f n := by
  refine Nat.pos_of_ne_zero fun z => h ?_
  have := gF_dvd n k hk (f := f)
  rw [z] at this
  exact Nat.eq_zero_of_zero_dvd this
theorem chI_add {a b : Nat → Nat} {ca cb : Nat} : chI W D (jS a b ca cb) e = (cb : Int) * chI W D a e + (ca : Int) * chI W D b e := by
  unfold chI
  rw [← fb_si_mul, ← fb_si_mul, ← fb_si_add]
  refine fb_si_cong fun k _ => ?_
  unfold jS
  rw [Int.natCast_add, Int.natCast_mul, Int.natCast_mul, Int.add_mul, Int.mul_comm (a k : Int) cb, Int.mul_comm (b k : Int) ca, Int.mul_assoc, Int.mul_assoc]
theorem jR_mul {a b : Nat → Nat} {ca cb k : Nat} (hk : k < W) : gF (jS a b ca cb) W * jR W a b ca cb k = jS a b ca cb k := Nat.mul_div_cancel' (gF_dvd W k hk)
theorem chI_div {a b : Nat → Nat} {ca cb : Nat} : (gF (jS a b ca cb) W : Int) * chI W D (jR W a b ca cb) e = (cb : Int) * chI W D a e + (ca : Int) * chI W D b e := by
  rw [← chI_add]
  unfold chI
  rw [← fb_si_mul]
  refine fb_si_cong fun k hk => ?_
  rw [← Int.mul_assoc, ← Int.natCast_mul, jR_mul hk]
theorem jR_0 {a b : Nat → Nat} {ca cb k : Nat} (ha : a k = 0) (hb : b k = 0) : jR W a b ca cb k = 0 := by
  unfold jR jS
  rw [ha, hb, Nat.zero_mul, Nat.zero_mul, Nat.add_zero, Nat.zero_div]
theorem chI_out {row : Nat → Nat} (hD : ∀ k, D k e = 0) : chI W D row e = 0 := by
  unfold chI
  rw [fb_si_cong (g := fun _ => 0 * 0) (fun k _ => by rw [hD k, Int.mul_zero]; rfl), fb_si_mul, Int.zero_mul]
theorem chI_e (hE : ∀ k e, E ≤ e → D k e = 0) {row : Nat → Nat} : ¬ gtR W E D row → ∀ e, (chI W D row e).natAbs ≤ 1000000000 := by
  intro h e
  by_cases q : e < E
  · exact Nat.le_of_not_lt fun z => h (Or.inr ⟨e, q, z⟩)
  · rw [chI_out (fun k => hE k e (by omega))]; decide
theorem jn_ok {a b : Nat} (hE : ∀ k e, E ≤ e → D k e = 0) (ha : rowOk W D (S.2 a)) (hb : rowOk W D (S.2 b)) (hp : isP W D S e a b) (hg : ¬ gtR W E D (jn W D S e a b)) : rowOk W D (jn W D S e a b) := by
  obtain ⟨a1, a2, a3, k, hk, a4⟩ := ha
  refine ⟨fun k hk => jR_0 (a1 k hk) (hb.1 k hk), fun k => ?_, chI_e hE hg, k, hk, ?_⟩
  · by_cases q : k < W
    · exact Nat.le_of_not_lt fun z => hg (Or.inl ⟨k, q, z⟩)
    · have : jn W D S e a b k = 0 := jR_0 (a1 k (by omega)) (hb.1 k (by omega))
      omega
  · intro z
    have h1 := jR_mul (a := S.2 a) (b := S.2 b) (ca := (chI W D (S.2 a) e).natAbs) (cb := (chI W D (S.2 b) e).natAbs) hk
    rw [show jR W (S.2 a) (S.2 b) (chI W D (S.2 a) e).natAbs (chI W D (S.2 b) e).natAbs k = 0 from z, Nat.mul_zero] at h1
    unfold jS at h1
    have h2 : S.2 a k * (chI W D (S.2 b) e).natAbs = 0 := by omega
    rcases Nat.mul_eq_zero.mp h2 with h | h
    · exact a4 h
    · have := hp.2; omega
theorem uB_lt {row : Nat → Nat} (h : W ≤ 10) : uB W row < 1024 := bs_small _ h
theorem uB_0 {row : Nat → Nat} (h : rowOk W D row) : uB W row ≠ 0 := by
  obtain ⟨_, _, _, k, hk, h2⟩ := h
  intro z
  exact bs_zero.mp z k hk h2
/-- those that stay use unlike ones -/
theorem fD_inj : ∀ n, n ≤ S.1 → (∀ j, j < (fD W S n).1 → ∃ r, r < n ∧ ¬ beat W S r ∧ (fD W S n).2 j = S.2 r) ∧ ∀ i j, i < (fD W S n).1 → j < (fD W S n).1 → uB W ((fD W S n).2 i) = uB W ((fD W S n).2 j) → i = j := by
  intro n
  induction n with
  | zero => intro _; exact ⟨fun j hj => absurd hj (Nat.not_lt_zero _), fun i j hi => absurd hi (Nat.not_lt_zero _)⟩
  | succ n ih =>
    intro hn
    obtain ⟨i1, i2⟩ := ih (by omega)
    rw [show fD W S (n + 1) = cif (beat W S n) (fD W S n) (fAp (fD W S n) (S.2 n)) from rfl]
    by_cases q : beat W S n
    · rw [cif_t q]
      exact ⟨fun j hj => by obtain ⟨r, h1, h2⟩ := i1 j hj; exact ⟨r, by omega, h2⟩, i2⟩
    · rw [cif_f q]
      have key : ∀ j, j < (fD W S n).1 → ¬ uB W ((fD W S n).2 j) = uB W (S.2 n) := by
        intro j hj e
        obtain ⟨r, h1, h2, h3⟩ := i1 j hj
        rw [h3] at e
        exact q ⟨r, by omega, by rw [e]; exact sb_rf, Or.inr h1⟩
      refine ⟨fun j hj => ?_, fun i j hi hj e => ?_⟩
      · have hj' : j < (fD W S n).1 + 1 := hj
        show ∃ r, r < n + 1 ∧ ¬ beat W S r ∧ (if j = (fD W S n).1 then S.2 n else (fD W S n).2 j) = S.2 r
        by_cases e : j = (fD W S n).1
        · rw [if_pos e]; exact ⟨n, Nat.lt_succ_self _, q, rfl⟩
        · rw [if_neg e]
          obtain ⟨r, h1, h2⟩ := i1 j (by omega)
          exact ⟨r, by omega, h2⟩
      · have hi' : i < (fD W S n).1 + 1 := hi
        have hj' : j < (fD W S n).1 + 1 := hj
        have e' : uB W (if i = (fD W S n).1 then S.2 n else (fD W S n).2 i) = uB W (if j = (fD W S n).1 then S.2 n else (fD W S n).2 j) := e
        by_cases ei : i = (fD W S n).1
        · by_cases ej : j = (fD W S n).1
          · rw [ei, ej]
          · rw [if_pos ei, if_neg ej] at e'
            exact absurd e'.symm (key j (by omega))
        · by_cases ej : j = (fD W S n).1
          · rw [if_neg ei, if_pos ej] at e'
            exact absurd e' (key i (by omega))
          · rw [if_neg ei, if_neg ej] at e'
            exact i2 i j (by omega) (by omega) e'
theorem fSt_ok (hE : ∀ k e, E ≤ e → D k e = 0) (hS : fOk W D S) (hf : ¬ farS W E D S e) : fOk W D (fSt W D S e) := by
  have h300 : (fA W D S e S.1).1 ≤ 300 := Nat.le_of_not_lt fun z => hf (Or.inl z)
  have hrows := fA_all (W := W) (D := D) (S := S) (e := e) (X := rowOk W D) hS.2.1 S.1 (Nat.le_refl _) (fun a b ha hb hp => jn_ok hE (hS.2.1 a ha) (hS.2.1 b hb) hp (fun z => hf (Or.inr ⟨a, b, ha, hb, hp, z⟩)))
  obtain ⟨d1, d2⟩ := fD_all (W := W) (S := fA W D S e S.1) (X := rowOk W D) hrows _ (Nat.le_refl _)
  exact ⟨by unfold fSt; omega, d1, (fD_inj (W := W) (S := fA W D S e S.1) _ (Nat.le_refl _)).2⟩
theorem f00_ok (hW : W ≤ 10) (hD : ∀ k e, (D k e).natAbs ≤ 9) : fOk W D (f00 W) := by
  have sup : ∀ r, r < W → ∀ i, (uB W ((f00 W).2 r)).testBit i = true ↔ i = r := by
    intro r hr i
    unfold uB
    rw [bs_tb]
    show i < W ∧ (if i = r then 1 else 0) ≠ 0 ↔ i = r
    constructor
    · rintro ⟨h1, h2⟩
      by_cases q : i = r
      · exact q
      · rw [if_neg q] at h2; exact absurd rfl h2
    · intro q
      rw [if_pos q]
      exact ⟨by omega, by decide⟩
  have ch1 : ∀ r, r < W → ∀ e, chI W D ((f00 W).2 r) e = D r e := by
    intro r hr e
    unfold chI
    have gen : ∀ n, fb_si (fun k => (((f00 W).2 r k : Nat) : Int) * D k e) n = if r < n then D r e else 0 := by
      intro n
      induction n with
      | zero => rw [if_neg (Nat.not_lt_zero _)]; rfl
      | succ n ih =>
        rw [fb_si_succ, ih]
        show _ + ((if n = r then 1 else 0 : Nat) : Int) * D n e = _
        by_cases q : n = r
        · subst q
          rw [if_neg (Nat.lt_irrefl _), if_pos rfl, if_pos (Nat.lt_succ_self _), Int.zero_add]
          exact Int.one_mul _
        · rw [if_neg q]
          by_cases q2 : r < n
          · rw [if_pos q2, if_pos (by omega)]; show _ + (0 : Int) * _ = _; rw [Int.zero_mul, Int.add_zero]
          · rw [if_neg q2, if_neg (by omega)]; show _ + (0 : Int) * _ = _; rw [Int.zero_mul, Int.add_zero]
    rw [gen W, if_pos hr]
  refine ⟨by show W ≤ 300; omega, fun r hr => ?_, fun r q hr hq e => ?_⟩
  · have hr' : r < W := hr
    refine ⟨fun k hk => if_neg (by omega), fun k => ?_, fun e => ?_, r, hr', ?_⟩
    · show (if k = r then 1 else 0) ≤ 1000000000
      split <;> omega
    · rw [ch1 r hr' e]; have := hD r e; omega
    · show (if r = r then 1 else 0) ≠ 0
      rw [if_pos rfl]; decide
  · have hr' : r < W := hr
    have hq' : q < W := hq
    have h1 := (sup r hr' r).mpr rfl
    rw [e] at h1
    exact (sup q hq' r).mp h1
theorem fZ_ok (hW : W ≤ 10) (hD : ∀ k e, (D k e).natAbs ≤ 9) (hE : ∀ k e, E ≤ e → D k e = 0) : ∀ n S, fZ W E D n = some S → fOk W D S := by
  intro n
  induction n with
  | zero => intro S h; cases h; exact f00_ok hW hD
  | succ n ih =>
    intro S h
    rw [show fZ W E D (n + 1) = (match fZ W E D n with | none => none | some S => cif (farS W E D S n) none (some (fSt W D S n))) from rfl] at h
    cases hz : fZ W E D n with
    | none => rw [hz] at h; cases h
    | some S0 =>
      rw [hz] at h
      dsimp only at h
      by_cases q : farS W E D S0 n
      · rw [cif_t q] at h; cases h
      · rw [cif_f q] at h
        cases h
        exact fSt_ok hE (ih S0 hz) q
theorem fZ_none : ∀ j n, fZ W E D n = none → fZ W E D (n + j) = none := by
  intro j
  induction j with
  | zero => intro n h; exact h
  | succ j ih =>
    intro n h
    show (match fZ W E D (n + j) with | none => none | some S => cif (farS W E D S (n + j)) none (some (fSt W D S (n + j)))) = none
    rw [ih n h]
end FW
-- Euclid's way: how many divisions
def eE : Nat → Nat → Nat → Prop
  | 0, _, b => b = 0
  | f + 1, a, b => b = 0 ∨ eE f b (a % b)
def fib : Nat → Nat
  | 0 => 0
  | 1 => 1
  | n + 2 => fib n + fib (n + 1)
theorem eE_0 : ∀ f a, eE f a 0 := by
  intro f a
  cases f with
  | zero => rfl
  | succ f => exact Or.inl rfl
theorem eE_fib : ∀ n, (∀ a b, b < fib (n + 1) → eE n a b) ∧ ∀ a b, b < fib (n + 2) → eE (n + 1) a b := by
  intro n
  induction n with
  | zero => exact ⟨fun a b h => by have : b < 1 := h; show b = 0; omega, fun a b h => by have : b < 1 := h; exact Or.inl (by omega)⟩
  | succ n ih =>
    refine ⟨ih.2, fun a b h => ?_⟩
    have h' : b < fib (n + 1) + fib (n + 2) := h
    by_cases q : b = 0
    · exact Or.inl q
    · refine Or.inr ?_
      have hr : a % b < b := Nat.mod_lt _ (by omega)
      by_cases q2 : a % b < fib (n + 2)
      · exact ih.2 b (a % b) q2
      · by_cases q3 : a % b = 0
        · rw [q3]; exact eE_0 _ _
        · refine Or.inr (ih.1 (a % b) (b % (a % b)) ?_)
          have h1 : b % (a % b) ≤ b - a % b := by
            have := Nat.mod_add_div b (a % b)
            have h2 : 1 ≤ b / (a % b) := (Nat.one_le_div_iff (by omega)).mpr (by omega)
            have h3 : a % b * 1 ≤ a % b * (b / (a % b)) := Nat.mul_le_mul_left _ h2
            omega
          omega
theorem eE_100 (a : Nat) {b : Nat} (h : b < 2 ^ 63) : eE 100 a b := (eE_fib 100).1 a b (Nat.lt_trans h (by decide +kernel))
theorem gcd_st (a b : Nat) : Nat.gcd a b = Nat.gcd b (a % b) := by
  rw [Nat.gcd_comm a b, Nat.gcd_rec, Nat.gcd_comm]
