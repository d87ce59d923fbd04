/-! How a text is read: the plain form. tx: its signs, len: how many. -/
def skf (tx : Nat → Nat) : Nat → Nat → Nat
  | 0, a => a
  | k + 1, a => if tx a = 32 then skf tx k (a + 1) else a
/-- the first from a on that is no blank, or the end -/
def sk (tx : Nat → Nat) (len a : Nat) : Nat := skf tx (len - a) a
section SK
variable {tx : Nat → Nat} {len a : Nat}
theorem sk_b (h : a < len) (h2 : tx a = 32) : sk tx len a = sk tx len (a + 1) := by
  unfold sk
  rw [show len - a = (len - (a + 1)) + 1 by omega]
  show (if tx a = 32 then skf tx (len - (a + 1)) (a + 1) else a) = _
  rw [if_pos h2]
theorem sk_n (h : ¬ (a < len ∧ tx a = 32)) : sk tx len a = a := by
  unfold sk
  cases e : len - a with
  | zero => rfl
  | succ k =>
    show (if tx a = 32 then skf tx k (a + 1) else a) = _
    rw [if_neg (fun q => h ⟨by omega, q⟩)]
theorem sk_ind {X : Nat → Prop} (h1 : ∀ a, ¬ (a < len ∧ tx a = 32) → X a) (h2 : ∀ a, a < len → tx a = 32 → X (a + 1) → X a) (a : Nat) : X a := by
  refine byMeas (X := X) (fun a => len - a) (fun a ih => ?_) a
  by_cases q : a < len ∧ tx a = 32
  · exact h2 a q.1 q.2 (ih (a + 1) (by omega))
  · exact h1 a q
theorem sk_ge (a : Nat) : a ≤ sk tx len a := by
  refine sk_ind (tx := tx) (len := len) (X := fun a => a ≤ sk tx len a) (fun a h => ?_) (fun a h1 h2 ih => ?_) a
  · rw [sk_n h]; exact Nat.le_refl _
  · rw [sk_b h1 h2]; omega
theorem sk_le {a : Nat} (h : a ≤ len) : sk tx len a ≤ len := by
  refine sk_ind (tx := tx) (len := len) (X := fun a => a ≤ len → sk tx len a ≤ len) (fun a h => ?_) (fun a h1 h2 ih => ?_) a h
  · rw [sk_n h]; exact id
  · rw [sk_b h1 h2]; intro _; exact ih (by omega)
theorem sk_no (a : Nat) : ¬ (sk tx len a < len ∧ tx (sk tx len a) = 32) := by
  refine sk_ind (tx := tx) (len := len) (X := fun a => ¬ (sk tx len a < len ∧ tx (sk tx len a) = 32)) (fun a h => ?_) (fun a h1 h2 ih => ?_) a
  · rw [sk_n h]; exact h
  · rw [sk_b h1 h2]; exact ih
theorem sk_sk (a : Nat) : sk tx len (sk tx len a) = sk tx len a := sk_n (sk_no a)
end SK
abbrev rR : Type := Nat ⊕ (Nat × (Nat → Nat) × Nat)
def isLt (tx : Nat → Nat) (len a : Nat) : Prop := a < len ∧ 65 ≤ tx a ∧ tx a ≤ 74
def isDg (tx : Nat → Nat) (len a : Nat) : Prop := a < len ∧ 49 ≤ tx a ∧ tx a ≤ 57
/-- the number behind a letter at a, and where it ends -/
noncomputable def tkN (tx : Nat → Nat) (len a : Nat) : Nat := @ite _ (isDg tx len (a + 1)) (Classical.propDecidable _) (tx (a + 1) - 48) 1
noncomputable def tkA (tx : Nat → Nat) (len a : Nat) : Nat := @ite _ (isDg tx len (a + 1)) (Classical.propDecidable _) (a + 2) (a + 1)
def updN (f : Nat → Nat) (k v : Nat) : Nat → Nat := fun j => if j = k then v else f j
theorem updN_s {f : Nat → Nat} {k v : Nat} : updN f k v k = v := if_pos rfl
theorem updN_n {f : Nat → Nat} {k v j : Nat} (h : j ≠ k) : updN f k v j = f j := if_neg h
noncomputable def rtk (tx : Nat → Nat) (len most base : Nat) : Nat → Nat → (Nat → Nat) → Nat → rR
  | 0, a, row, pl => .inr (a, row, pl)
  | k + 1, a, row, pl => @ite _ (isLt tx len a) (Classical.propDecidable _)
      (if most < row (base + (tx a - 65)) + tkN tx len a then .inl a
       else rtk tx len most base k (sk tx len (tkA tx len a)) (updN row (base + (tx a - 65)) (row (base + (tx a - 65)) + tkN tx len a)) (max pl (tx a - 65 + 1)))
      (.inr (a, row, pl))
/-- tokens from a on: where a fault is, or where they end, the row, the places -/
noncomputable def rt (tx : Nat → Nat) (len most base a : Nat) (row : Nat → Nat) (pl : Nat) : rR := rtk tx len most base (len + 1 - a) a row pl
section RT
variable {tx : Nat → Nat} {len most base : Nat}
theorem tkN_t {a : Nat} (h : isDg tx len (a + 1)) : tkN tx len a = tx (a + 1) - 48 := @if_pos _ (Classical.propDecidable _) h _ _ _
theorem tkN_f {a : Nat} (h : ¬ isDg tx len (a + 1)) : tkN tx len a = 1 := @if_neg _ (Classical.propDecidable _) h _ _ _
theorem tkA_t {a : Nat} (h : isDg tx len (a + 1)) : tkA tx len a = a + 2 := @if_pos _ (Classical.propDecidable _) h _ _ _
theorem tkA_f {a : Nat} (h : ¬ isDg tx len (a + 1)) : tkA tx len a = a + 1 := @if_neg _ (Classical.propDecidable _) h _ _ _
theorem tkA_ge (a : Nat) : a + 1 ≤ tkA tx len a := by
  by_cases h : isDg tx len (a + 1)
  · rw [tkA_t h]; omega
  · rw [tkA_f h]; omega
theorem tkA_le {a : Nat} (h0 : a < len) : tkA tx len a ≤ len := by
  by_cases h : isDg tx len (a + 1)
  · rw [tkA_t h]; have := h.1; omega
  · rw [tkA_f h]; omega
theorem tkN_9 (a : Nat) : 1 ≤ tkN tx len a ∧ tkN tx len a ≤ 9 := by
  by_cases h : isDg tx len (a + 1)
  · rw [tkN_t h]; have := h.2; omega
  · rw [tkN_f h]; omega
theorem rtk_n {k a : Nat} {row : Nat → Nat} {pl : Nat} (h : ¬ isLt tx len a) : rtk tx len most base k a row pl = .inr (a, row, pl) := by
  cases k with
  | zero => rfl
  | succ k => exact @if_neg _ (Classical.propDecidable _) h _ _ _
theorem rtk_l {k a : Nat} {row : Nat → Nat} {pl : Nat} (h : isLt tx len a) : rtk tx len most base (k + 1) a row pl = (if most < row (base + (tx a - 65)) + tkN tx len a then .inl a
       else rtk tx len most base k (sk tx len (tkA tx len a)) (updN row (base + (tx a - 65)) (row (base + (tx a - 65)) + tkN tx len a)) (max pl (tx a - 65 + 1))) := @if_pos _ (Classical.propDecidable _) h _ _ _
theorem rtk_m : ∀ (k a : Nat) (row : Nat → Nat) (pl : Nat), len + 1 - a ≤ k → rtk tx len most base (k + 1) a row pl = rtk tx len most base k a row pl := by
  intro k
  induction k with
  | zero =>
    intro a row pl h
    have : ¬ isLt tx len a := fun q => by have := q.1; omega
    rw [rtk_n this, rtk_n this]
  | succ k ih =>
    intro a row pl h
    by_cases q : isLt tx len a
    · rw [rtk_l q, rtk_l q]
      split
      · rfl
      · refine ih _ _ _ ?_
        have h1 := sk_ge (tx := tx) (len := len) (tkA tx len a)
        have h2 := tkA_ge (tx := tx) (len := len) a
        omega
    · rw [rtk_n q, rtk_n q]
theorem rtk_all {k a : Nat} {row : Nat → Nat} {pl : Nat} (h : len + 1 - a ≤ k) : rtk tx len most base k a row pl = rt tx len most base a row pl := by
  unfold rt
  have : ∀ j, rtk tx len most base (len + 1 - a + j) a row pl = rtk tx len most base (len + 1 - a) a row pl := by
    intro j
    induction j with
    | zero => rfl
    | succ j ih => rw [← ih]; exact rtk_m (len + 1 - a + j) _ _ _ (by omega)
  have e := this (k - (len + 1 - a))
  rw [show len + 1 - a + (k - (len + 1 - a)) = k by omega] at e
  exact e
theorem rt_n {a : Nat} {row : Nat → Nat} {pl : Nat} (h : ¬ isLt tx len a) : rt tx len most base a row pl = .inr (a, row, pl) := rtk_n h
theorem rt_f {a : Nat} {row : Nat → Nat} {pl : Nat} (h : isLt tx len a) (h2 : most < row (base + (tx a - 65)) + tkN tx len a) : rt tx len most base a row pl = .inl a := by
  rw [← rtk_all (k := len + 1 - a + 1) (by omega), rtk_l h, if_pos h2]
theorem rt_l {a : Nat} {row : Nat → Nat} {pl : Nat} (h : isLt tx len a) (h2 : ¬ most < row (base + (tx a - 65)) + tkN tx len a) : rt tx len most base a row pl = rt tx len most base (sk tx len (tkA tx len a)) (updN row (base + (tx a - 65)) (row (base + (tx a - 65)) + tkN tx len a)) (max pl (tx a - 65 + 1)) := by
  rw [← rtk_all (k := len + 1 - a + 1) (by omega), rtk_l h, if_neg h2, rtk_all]
  have h1 := sk_ge (tx := tx) (len := len) (tkA tx len a)
  have h2 := tkA_ge (tx := tx) (len := len) a
  omega
/-- what is known of rows that were read -/
def rtGood (len most base a : Nat) (row : Nat → Nat) (pl : Nat) : rR → Prop
  | .inl f => f < len
  | .inr (a', row', pl') => a ≤ a' ∧ a' ≤ len ∧ pl ≤ pl' ∧ pl' ≤ 10 ∧ (∀ i, row' i ≤ most) ∧ (∀ i, i < base ∨ base + pl' ≤ i → row' i = row i)
theorem rt_good {a : Nat} : ∀ (row : Nat → Nat) (pl : Nat), a ≤ len → pl ≤ 10 → (∀ i, row i ≤ most) → rtGood len most base a row pl (rt tx len most base a row pl) := by
  refine byMeas (X := fun a => ∀ (row : Nat → Nat) (pl : Nat), a ≤ len → pl ≤ 10 → (∀ i, row i ≤ most) → rtGood len most base a row pl (rt tx len most base a row pl)) (fun a => len - a) (fun a ih => ?_) a
  intro row pl ha hp hr
  by_cases q : isLt tx len a
  · by_cases q2 : most < row (base + (tx a - 65)) + tkN tx len a
    · rw [rt_f q q2]; exact q.1
    · rw [rt_l q q2]
      have h1 := sk_ge (tx := tx) (len := len) (tkA tx len a)
      have h2 := tkA_ge (tx := tx) (len := len) a
      have h3 := tkA_le (tx := tx) q.1
      have h4 := sk_le (tx := tx) (len := len) h3
      have q' := q
      obtain ⟨z1, z2, z3⟩ := q'
      have g := ih (sk tx len (tkA tx len a)) (by omega) (updN row (base + (tx a - 65)) (row (base + (tx a - 65)) + tkN tx len a)) (max pl (tx a - 65 + 1)) h4 (by omega) (fun i => by
        unfold updN
        split
        · omega
        · exact hr i)
      revert g
      generalize rt tx len most base (sk tx len (tkA tx len a)) (updN row (base + (tx a - 65)) (row (base + (tx a - 65)) + tkN tx len a)) (max pl (tx a - 65 + 1)) = R
      intro g
      cases R with
      | inl f => exact g
      | inr x =>
        obtain ⟨a', row', pl'⟩ := x
        obtain ⟨g1, g2, g3, g4, g5, g6⟩ := g
        refine ⟨by omega, g2, by omega, g4, g5, fun i hi => ?_⟩
        rw [g6 i hi, updN_n (by omega)]
  · rw [rt_n q]
    exact ⟨Nat.le_refl _, ha, Nat.le_refl _, hp, hr, fun _ _ => rfl⟩
end RT
/-- what is read of a net: places, transitions, what is taken, put, the first marking -/
abbrev pS : Type := Nat × Nat × (Nat → Nat) × (Nat → Nat) × (Nat → Nat)
/-- a part from a on (no blank there) -/
noncomputable def rpart (tx : Nat → Nat) (len a : Nat) (s : pS) : Nat ⊕ (Nat × pS) :=
  @ite _ (a < len ∧ tx a = 109) (Classical.propDecidable _)
    (match rt tx len 99 0 (sk tx len (a + 1)) s.2.2.2.2 s.1 with
      | .inl f => .inl f
      | .inr (a', row, pl) => .inr (a', (pl, s.2.1, s.2.2.1, s.2.2.2.1, row)))
    (match rt tx len 9 (s.2.1 * 10) a s.2.2.1 s.1 with
      | .inl f => .inl f
      | .inr (a', row, pl) => @ite _ ((a' < len ∧ tx a' = 62) ∧ s.2.1 < 10) (Classical.propDecidable _)
          (match rt tx len 9 (s.2.1 * 10) (sk tx len (a' + 1)) s.2.2.2.1 pl with
            | .inl f => .inl f
            | .inr (a2, row2, pl2) => .inr (a2, (pl2, s.2.1 + 1, row, row2, s.2.2.2.2)))
          (.inl a'))
noncomputable def rpk (tx : Nat → Nat) (len : Nat) : Nat → Nat → pS → Nat ⊕ pS
  | 0, _, s => .inr s
  | k + 1, a, s => if a < len then (if tx a = 59 then (match rpart tx len (sk tx len (a + 1)) s with
      | .inl f => .inl f
      | .inr (a', s') => rpk tx len k a' s') else .inl a) else (if s.1 = 0 then .inl len else .inr s)
/-- the parts that are left, from a on -/
noncomputable def rps (tx : Nat → Nat) (len a : Nat) (s : pS) : Nat ⊕ pS := rpk tx len (len + 1 - a) a s
def s00 : pS := (0, 0, fun _ => 0, fun _ => 0, fun _ => 0)
/-- a text becomes a net -/
noncomputable def rnet (tx : Nat → Nat) (len : Nat) : Nat ⊕ pS := match rpart tx len (sk tx len 0) s00 with
  | .inl f => .inl f
  | .inr (a, s) => rps tx len a s
/-- what is known of a net that is being read -/
def okS (s : pS) : Prop := s.1 ≤ 10 ∧ s.2.1 ≤ 10 ∧ (∀ i, s.2.2.1 i ≤ 9) ∧ (∀ i, s.2.2.2.1 i ≤ 9) ∧ (∀ i, s.2.2.2.2 i ≤ 99) ∧ (∀ t p, p < 10 → s.1 ≤ p ∨ s.2.1 ≤ t → s.2.2.1 (t * 10 + p) = 0) ∧ (∀ t p, p < 10 → s.1 ≤ p ∨ s.2.1 ≤ t → s.2.2.2.1 (t * 10 + p) = 0) ∧ (∀ p, s.1 ≤ p → s.2.2.2.2 p = 0)
theorem ok00 : okS s00 := ⟨by decide, by decide, fun _ => Nat.zero_le _, fun _ => Nat.zero_le _, fun _ => Nat.zero_le _, fun _ _ _ _ => rfl, fun _ _ _ _ => rfl, fun _ _ => rfl⟩
def rpGood (len a : Nat) : Nat ⊕ (Nat × pS) → Prop
  | .inl f => f ≤ len
  | .inr (a', s') => a ≤ a' ∧ a' ≤ len ∧ okS s'
section RP
variable {tx : Nat → Nat} {len : Nat}
theorem rpart_m {a : Nat} {s : pS} (h : a < len ∧ tx a = 109) : rpart tx len a s = (match rt tx len 99 0 (sk tx len (a + 1)) s.2.2.2.2 s.1 with
      | .inl f => .inl f
      | .inr (a', row, pl) => .inr (a', (pl, s.2.1, s.2.2.1, s.2.2.2.1, row))) := @if_pos _ (Classical.propDecidable _) h _ _ _
theorem rpart_t {a : Nat} {s : pS} (h : ¬ (a < len ∧ tx a = 109)) : rpart tx len a s = (match rt tx len 9 (s.2.1 * 10) a s.2.2.1 s.1 with
      | .inl f => .inl f
      | .inr (a', row, pl) => @ite _ ((a' < len ∧ tx a' = 62) ∧ s.2.1 < 10) (Classical.propDecidable _)
          (match rt tx len 9 (s.2.1 * 10) (sk tx len (a' + 1)) s.2.2.2.1 pl with
            | .inl f => .inl f
            | .inr (a2, row2, pl2) => .inr (a2, (pl2, s.2.1 + 1, row, row2, s.2.2.2.2)))
          (.inl a')) := @if_neg _ (Classical.propDecidable _) h _ _ _
theorem rpart_good {a : Nat} {s : pS} (ha : a ≤ len) (hs : okS s) : rpGood len a (rpart tx len a s) := by
  obtain ⟨o1, o2, o3, o4, o5, o6, o7, o8⟩ := id hs
  by_cases h : a < len ∧ tx a = 109
  · rw [rpart_m h]
    have h1 := sk_ge (tx := tx) (len := len) (a + 1)
    have h2 := sk_le (tx := tx) (len := len) (a := a + 1) (by omega)
    have g := rt_good (tx := tx) (most := 99) (base := 0) (a := sk tx len (a + 1)) s.2.2.2.2 s.1 h2 o1 o5
    revert g
    generalize rt tx len 99 0 (sk tx len (a + 1)) s.2.2.2.2 s.1 = R
    intro g
    cases R with
    | inl f => exact Nat.le_of_lt g
    | inr x =>
      obtain ⟨a', row', pl'⟩ := x
      obtain ⟨g1, g2, g3, g4, g5, g6⟩ := g
      refine ⟨by omega, g2, g4, o2, o3, o4, g5, fun t p hp hq => o6 t p hp ?_, fun t p hp hq => o7 t p hp ?_, fun p hp => ?_⟩
      · have hq' : pl' ≤ p ∨ s.2.1 ≤ t := hq; omega
      · have hq' : pl' ≤ p ∨ s.2.1 ≤ t := hq; omega
      · have hp' : pl' ≤ p := hp
        show row' p = 0
        rw [g6 p (by omega), o8 p (by omega)]
  · rw [rpart_t h]
    have g := rt_good (tx := tx) (most := 9) (base := s.2.1 * 10) (a := a) s.2.2.1 s.1 ha o1 o3
    revert g
    generalize rt tx len 9 (s.2.1 * 10) a s.2.2.1 s.1 = R
    intro g
    cases R with
    | inl f => exact Nat.le_of_lt g
    | inr x =>
      obtain ⟨a', row', pl'⟩ := x
      obtain ⟨g1, g2, g3, g4, g5, g6⟩ := g
      show rpGood len a (@ite _ ((a' < len ∧ tx a' = 62) ∧ s.2.1 < 10) (Classical.propDecidable _) _ _)
      by_cases c : (a' < len ∧ tx a' = 62) ∧ s.2.1 < 10
      · rw [@if_pos _ (Classical.propDecidable _) c]
        have h1 := sk_ge (tx := tx) (len := len) (a' + 1)
        have h2 := sk_le (tx := tx) (len := len) (a := a' + 1) (by omega)
        have k := rt_good (tx := tx) (most := 9) (base := s.2.1 * 10) (a := sk tx len (a' + 1)) s.2.2.2.1 pl' h2 g4 o4
        revert k
        generalize rt tx len 9 (s.2.1 * 10) (sk tx len (a' + 1)) s.2.2.2.1 pl' = R2
        intro k
        cases R2 with
        | inl f => exact Nat.le_of_lt k
        | inr y =>
          obtain ⟨a2, row2, pl2⟩ := y
          obtain ⟨k1, k2, k3, k4, k5, k6⟩ := k
          refine ⟨by omega, k2, k4, ?_, g5, k5, o5, fun t p hp hq => ?_, fun t p hp hq => ?_, fun p hp => o8 p ?_⟩
          · show s.2.1 + 1 ≤ 10; omega
          · have hq' : pl2 ≤ p ∨ s.2.1 + 1 ≤ t := hq
            show row' (t * 10 + p) = 0
            rw [g6 _ (by omega)]
            exact o6 t p hp (by omega)
          · have hq' : pl2 ≤ p ∨ s.2.1 + 1 ≤ t := hq
            show row2 (t * 10 + p) = 0
            rw [k6 _ (by omega)]
            exact o7 t p hp (by omega)
          · have hp' : pl2 ≤ p := hp
            omega
      · rw [@if_neg _ (Classical.propDecidable _) c]
        exact g2
theorem rpk_s (k a : Nat) (s : pS) : rpk tx len (k + 1) a s = if a < len then (if tx a = 59 then (match rpart tx len (sk tx len (a + 1)) s with
      | .inl f => .inl f
      | .inr (a', s') => rpk tx len k a' s') else .inl a) else (if s.1 = 0 then .inl len else .inr s) := rfl
theorem rpk_m : ∀ (k a : Nat) (s : pS), okS s → len + 1 - a ≤ k → a ≤ len → rpk tx len (k + 1) a s = rpk tx len k a s := by
  intro k
  induction k with
  | zero => intro a s _ h h2; omega
  | succ k ih =>
    intro a s hs h h2
    rw [rpk_s, rpk_s]
    by_cases c : a < len
    · rw [if_pos c, if_pos c]
      have h3 := sk_ge (tx := tx) (len := len) (a + 1)
      have g := rpart_good (tx := tx) (len := len) (a := sk tx len (a + 1)) (sk_le (by omega)) hs
      revert g
      generalize rpart tx len (sk tx len (a + 1)) s = R
      intro g
      cases R with
      | inl f => rfl
      | inr x =>
        obtain ⟨a', s'⟩ := x
        obtain ⟨g1, g2, g3⟩ := g
        have e := ih a' s' g3 (by omega) g2
        by_cases c2 : tx a = 59
        · rw [if_pos c2, if_pos c2]; exact e
        · rw [if_neg c2, if_neg c2]
    · rw [if_neg c, if_neg c]
theorem rpk_all {k a : Nat} {s : pS} (hs : okS s) (h2 : a ≤ len) (h : len + 1 - a ≤ k) : rpk tx len k a s = rps tx len a s := by
  unfold rps
  have : ∀ j, rpk tx len (len + 1 - a + j) a s = rpk tx len (len + 1 - a) a s := by
    intro j
    induction j with
    | zero => rfl
    | succ j ih => rw [← ih]; exact rpk_m (len + 1 - a + j) _ _ hs (by omega) h2
  have e := this (k - (len + 1 - a))
  rw [show len + 1 - a + (k - (len + 1 - a)) = k by omega] at e
  exact e
theorem rps_e {a : Nat} {s : pS} (h : ¬ a < len) : rps tx len a s = (if s.1 = 0 then .inl len else .inr s) ∨ len < a := by
  by_cases q : len < a
  · exact Or.inr q
  · refine Or.inl ?_
    unfold rps
    rw [show len + 1 - a = 0 + 1 by omega]
    rw [rpk_s, if_neg h]
theorem rps_x {a : Nat} {s : pS} (h : a < len) (h2 : tx a ≠ 59) : rps tx len a s = .inl a := by
  unfold rps
  rw [show len + 1 - a = (len - a) + 1 by omega]
  rw [rpk_s, if_pos h, if_neg h2]
theorem rps_l {a : Nat} {s : pS} (hs : okS s) (h : a < len) (h2 : tx a = 59) : rps tx len a s = (match rpart tx len (sk tx len (a + 1)) s with
      | .inl f => .inl f
      | .inr (a', s') => rps tx len a' s') := by
  unfold rps
  rw [show len + 1 - a = (len - a) + 1 by omega]
  rw [rpk_s, if_pos h, if_pos h2]
  have h3 := sk_ge (tx := tx) (len := len) (a + 1)
  have g := rpart_good (tx := tx) (len := len) (a := sk tx len (a + 1)) (sk_le (by omega)) hs
  revert g
  generalize rpart tx len (sk tx len (a + 1)) s = R
  intro g
  cases R with
  | inl f => rfl
  | inr x =>
    obtain ⟨a', s'⟩ := x
    obtain ⟨g1, g2, g3⟩ := g
    exact rpk_all g3 g2 (by omega)
def rnGood (len : Nat) : Nat ⊕ pS → Prop
  | .inl f => f ≤ len
  | .inr s => okS s ∧ 0 < s.1
theorem rps_good {a : Nat} : ∀ s : pS, a ≤ len → okS s → rnGood len (rps tx len a s) := by
  refine byMeas (X := fun a => ∀ s : pS, a ≤ len → okS s → rnGood len (rps tx len a s)) (fun a => len - a) (fun a ih => ?_) a
  intro s ha hs
  by_cases c : a < len
  · by_cases c2 : tx a = 59
    · rw [rps_l hs c c2]
      have h3 := sk_ge (tx := tx) (len := len) (a + 1)
      have g := rpart_good (tx := tx) (len := len) (a := sk tx len (a + 1)) (sk_le (by omega)) hs
      revert g
      generalize rpart tx len (sk tx len (a + 1)) s = R
      intro g
      cases R with
      | inl f => exact g
      | inr x =>
        obtain ⟨a', s'⟩ := x
        obtain ⟨g1, g2, g3⟩ := g
        exact ih a' (by omega) s' g2 g3
    · rw [rps_x c c2]; exact ha
  · rcases rps_e (tx := tx) (s := s) c with e | e
    · rw [e]
      split
      · exact Nat.le_refl _
      · exact ⟨hs, by omega⟩
    · omega
theorem rnet_good : rnGood len (rnet tx len) := by
  unfold rnet
  have g := rpart_good (tx := tx) (len := len) (a := sk tx len 0) (sk_le (Nat.zero_le _)) ok00
  revert g
  generalize rpart tx len (sk tx len 0) s00 = R
  intro g
  cases R with
  | inl f => exact g
  | inr x =>
    obtain ⟨a', s'⟩ := x
    obtain ⟨g1, g2, g3⟩ := g
    exact rps_good s' g2 g3
end RP
