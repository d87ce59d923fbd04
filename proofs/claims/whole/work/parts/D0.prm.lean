/-! Rows that hold the same; sorting by insertion. -/
def prm (n : Nat) (A B : Nat → Nat) : Prop := ∀ q : Nat → Bool, fb_ct (fun i => q (A i)) n = fb_ct (fun i => q (B i)) n
def ins (A : Nat → Nat) (k x : Nat) : Nat → Nat := fun j => if j < k then A j else if j = k then x else A (j - 1)
section PRM
variable {n i k x : Nat} {A B C : Nat → Nat} {key : Nat → Nat}
theorem prm.rf : prm n A A := fun _ => rfl
theorem prm.sy (h : prm n A B) : prm n B A := fun q => (h q).symm
theorem prm.tr (h : prm n A B) (h2 : prm n B C) : prm n A C := fun q => (h q).trans (h2 q)
theorem prm.mem (h : prm n A B) (hi : i < n) : ∃ j, j < n ∧ B j = A i := by
  have h1 : 0 < fb_ct (fun j => decide (A j = A i)) n := fb_ct_pos.mpr ⟨i, hi, decide_eq_true rfl⟩
  have h2 := h (fun v => decide (v = A i))
  have h3 : 0 < fb_ct (fun j => decide (B j = A i)) n := by
    have : fb_ct (fun j => decide (A j = A i)) n = fb_ct (fun j => decide (B j = A i)) n := h2
    omega
  obtain ⟨j, hj, e⟩ := fb_ct_pos.mp h3
  exact ⟨j, hj, of_decide_eq_true e⟩
theorem ins_lt {j : Nat} (h : j < k) : ins A k x j = A j := if_pos h
theorem ins_eq : ins A k x k = x := by
  unfold ins
  rw [if_neg (Nat.lt_irrefl _), if_pos rfl]
theorem ins_gt {j : Nat} (h : k < j) : ins A k x j = A (j - 1) := by
  unfold ins
  rw [if_neg (by omega), if_neg (by omega)]
theorem ins_ct (q : Nat → Bool) : ∀ n, k ≤ n → fb_ct (fun j => q (ins A k x j)) (n + 1) = fb_ct (fun j => q (A j)) n + (if q x then 1 else 0) := by
  intro n
  induction n with
  | zero =>
    intro hk
    obtain rfl : k = 0 := by omega
    rw [fb_ct_succ, ins_eq]
    rfl
  | succ n ih =>
    intro hk
    rw [fb_ct_succ]
    by_cases e : k = n + 1
    · subst e
      rw [ins_eq]
      have : fb_ct (fun j => q (ins A (n + 1) x j)) (n + 1) = fb_ct (fun j => q (A j)) (n + 1) := fb_ct_cong (fun j hj => by rw [ins_lt hj])
      rw [this]
    · rw [ih (by omega), ins_gt (by omega), fb_ct_succ, show n + 1 - 1 = n by omega]
      omega
theorem ins_prm (h : prm n A B) (hk : k ≤ n) (hx : B n = x) : prm (n + 1) (ins A k x) B := by
  intro q
  rw [ins_ct q n hk, fb_ct_succ, h q, hx]
theorem ins_up (hk : k ≤ n) (s : ∀ i j, i < j → j < n → key (A i) < key (A j)) (h1 : ∀ j, j < k → key (A j) < key x) (h2 : ∀ j, k ≤ j → j < n → key x < key (A j)) : ∀ i j, i < j → j < n + 1 → key (ins A k x i) < key (ins A k x j) := by
  intro i j hij hj
  rcases Nat.lt_trichotomy j k with e | e | e
  · rw [ins_lt e, ins_lt (by omega)]; exact s i j hij (by omega)
  · subst e
    rw [ins_eq, ins_lt hij]; exact h1 i hij
  · rw [ins_gt e]
    rcases Nat.lt_trichotomy i k with g | g | g
    · rw [ins_lt g]
      by_cases w : i = j - 1
      · omega
      · exact s i (j - 1) (by omega) (by omega)
    · subst g
      rw [ins_eq]; exact h2 (j - 1) (by omega) (by omega)
    · rw [ins_gt g]; exact s (i - 1) (j - 1) (by omega) (by omega)
theorem pos_ex : ∀ n, (∀ i j, i < j → j < n → key (A i) < key (A j)) → (∀ j, j < n → key (A j) ≠ key x) → ∃ k, k ≤ n ∧ (∀ j, j < k → key (A j) < key x) ∧ (∀ j, k ≤ j → j < n → key x < key (A j)) := by
  intro n
  induction n with
  | zero => intro _ _; exact ⟨0, Nat.le_refl _, fun j hj => by omega, fun j _ hj => by omega⟩
  | succ n ih =>
    intro s ne
    by_cases g : key (A n) < key x
    · refine ⟨n + 1, Nat.le_refl _, fun j hj => ?_, fun j h1 h2 => by omega⟩
      by_cases e : j = n
      · rw [e]; exact g
      · have := s j n (by omega) (by omega); omega
    · obtain ⟨k, k1, k2, k3⟩ := ih (fun i j h1 h2 => s i j h1 (by omega)) (fun j hj => ne j (by omega))
      refine ⟨k, by omega, k2, fun j h1 h2 => ?_⟩
      by_cases e : j = n
      · have := ne n (by omega); rw [e]; omega
      · exact k3 j h1 (by omega)
theorem sort_ex : ∀ n, (∀ i j, i < j → j < n → key (B i) ≠ key (B j)) → ∃ C, prm n C B ∧ ∀ i j, i < j → j < n → key (C i) < key (C j) := by
  intro n
  induction n with
  | zero => intro _; exact ⟨B, prm.rf, fun i j _ hj => by omega⟩
  | succ n ih =>
    intro ne
    obtain ⟨C, c1, c2⟩ := ih (fun i j h1 h2 => ne i j h1 (by omega))
    obtain ⟨k, k1, k2, k3⟩ := pos_ex (x := B n) n c2 (fun j hj e => by
      obtain ⟨a, ha, ea⟩ := c1.mem hj
      rw [← ea] at e
      exact ne a n ha (by omega) e)
    exact ⟨ins C k (B n), ins_prm c1 k1 rfl, ins_up k1 c2 k2 k3⟩
/-- rows that rise and hold the same are the same -/
theorem up_eq (h : prm n A B) (sA : ∀ i j, i < j → j < n → A i < A j) (sB : ∀ i j, i < j → j < n → B i < B j) : ∀ i, i < n → A i = B i := by
  have key : ∀ m i, i < m → i < n → A i = B i := by
    intro m
    induction m with
    | zero => intro i hi; omega
    | succ m ih =>
      intro i hi hn
      by_cases g : i < m
      · exact ih i g hn
      · obtain rfl : i = m := by omega
        obtain ⟨j, hj, e⟩ := h.mem hn
        obtain ⟨k, hk, e2⟩ := h.sy.mem hn
        have j1 : i ≤ j := Nat.le_of_not_lt fun q => by
          have := ih j q hj
          have := sA j i q hn
          omega
        have k1 : i ≤ k := Nat.le_of_not_lt fun q => by
          have := ih k q hk
          have := sB k i q hn
          omega
        have a1 : B i ≤ B j := by
          by_cases w : i = j
          · rw [w]; exact Nat.le_refl _
          · exact Nat.le_of_lt (sB i j (by omega) hj)
        have a2 : A i ≤ A k := by
          by_cases w : i = k
          · rw [w]; exact Nat.le_refl _
          · exact Nat.le_of_lt (sA i k (by omega) hk)
        omega
  intro i hi
  exact key (i + 1) i (by omega) hi
theorem ct_cut {f : Nat → Bool} (hi : i ≤ n) (h : ∀ j, i ≤ j → j < n → f j = false) : fb_ct f n = fb_ct f i := by
  induction n with
  | zero => rw [show i = 0 by omega]
  | succ n ih =>
    by_cases e : i = n + 1
    · rw [e]
    · rw [fb_ct_succ, ih (by omega) (fun j h1 h2 => h j h1 (by omega)), h n (by omega) (by omega)]
      rfl
theorem mono_lt (e : ∀ v, fb_ct (fun i => decide (A i = v)) n = fb_ct (fun i => decide (B i = v)) n) (sB : ∀ i j, i < j → j < n → B i ≤ B j) (hi : i < n) (ih : ∀ j, j < i → A j = B j) : B i ≤ A i := by
  refine Nat.le_of_not_lt fun q => ?_
  have h1 := e (A i)
  rw [ct_cut (f := fun k => decide (B k = A i)) (i := i) (Nat.le_of_lt hi) (fun j j1 j2 => decide_eq_false (fun w => by
    by_cases g : i = j
    · rw [← g] at w; omega
    · have := sB i j (by omega) j2; omega))] at h1
  have h2 := fb_ct_mono (fun k => decide (A k = A i)) (show i + 1 ≤ n by omega)
  rw [fb_ct_succ, if_pos (decide_eq_true rfl)] at h2
  have h3 : fb_ct (fun k => decide (A k = A i)) i = fb_ct (fun k => decide (B k = A i)) i := fb_ct_cong (fun k hk => by rw [ih k hk])
  omega
/-- rows that don't fall and hold the same as often are the same -/
theorem mono_eq (e : ∀ v, fb_ct (fun i => decide (A i = v)) n = fb_ct (fun i => decide (B i = v)) n) (sA : ∀ i j, i < j → j < n → A i ≤ A j) (sB : ∀ i j, i < j → j < n → B i ≤ B j) : ∀ i, i < n → A i = B i := by
  have key : ∀ m i, i < m → i < n → A i = B i := by
    intro m
    induction m with
    | zero => intro i hi; omega
    | succ m ih =>
      intro i hi hn
      by_cases g : i < m
      · exact ih i g hn
      · obtain rfl : i = m := by omega
        have a1 := mono_lt e sB hn (fun j hj => ih j hj (by omega))
        have a2 := mono_lt (fun v => (e v).symm) sA hn (fun j hj => (ih j hj (by omega)).symm)
        omega
  intro i hi
  exact key (i + 1) i (by omega) hi
end PRM
/-! What a transition wants, place by place. -/
def wnt (g : Nat → Nat) : Nat → Nat → Nat
  | 0 => fun _ => 0
  | p + 1 => fun i => if i < fb_sm g p then wnt g p i else p
section WNT
variable {g : Nat → Nat} {P i j p : Nat}
theorem wnt_lt : ∀ P, i < fb_sm g P → wnt g P i < P := by
  intro P
  induction P with
  | zero => intro h; exact absurd h (Nat.not_lt_zero _)
  | succ P ih =>
    intro h
    show (if i < fb_sm g P then wnt g P i else P) < P + 1
    by_cases q : i < fb_sm g P
    · rw [if_pos q]; have := ih q; omega
    · rw [if_neg q]; omega
theorem wnt_mono : ∀ P, i < j → j < fb_sm g P → wnt g P i ≤ wnt g P j := by
  intro P
  induction P with
  | zero => intro _ h; exact absurd h (Nat.not_lt_zero _)
  | succ P ih =>
    intro hij h
    show (if i < fb_sm g P then wnt g P i else P) ≤ (if j < fb_sm g P then wnt g P j else P)
    by_cases q : j < fb_sm g P
    · rw [if_pos q, if_pos (by omega)]; exact ih hij q
    · rw [if_neg q]
      by_cases w : i < fb_sm g P
      · rw [if_pos w]; have := wnt_lt P w; omega
      · rw [if_neg w]; exact Nat.le_refl _
theorem wnt_ct : ∀ P p, fb_ct (fun i => decide (wnt g P i = p)) (fb_sm g P) = if p < P then g p else 0 := by
  intro P
  induction P with
  | zero => intro p; rfl
  | succ P ih =>
    intro p
    have e1 : fb_ct (fun i => decide (wnt g (P + 1) i = p)) (fb_sm g P) = fb_ct (fun i => decide (wnt g P i = p)) (fb_sm g P) := fb_ct_cong (fun k hk => by
      show decide ((if k < fb_sm g P then wnt g P k else P) = p) = _
      rw [if_pos hk])
    rw [fb_sm_succ, fb_ct_split, e1, ih p]
    have e2 : ∀ k, wnt g (P + 1) (fb_sm g P + k) = P := fun k => by
      show (if fb_sm g P + k < fb_sm g P then wnt g P (fb_sm g P + k) else P) = P
      rw [if_neg (by omega)]
    simp only [e2]
    by_cases q : p = P
    · subst q
      rw [if_neg (Nat.lt_irrefl _), if_pos (Nat.lt_succ_self _), fb_ct_all.mpr (fun _ _ => decide_eq_true rfl), Nat.zero_add]
    · rw [fb_ct_zero.mpr (fun _ _ => decide_eq_false (fun w => q w.symm)), Nat.add_zero]
      by_cases w : p < P
      · rw [if_pos w, if_pos (by omega)]
      · rw [if_neg w, if_neg (by omega)]
end WNT
