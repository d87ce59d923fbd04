/-! COVERED, in plain form: nodes, what each has, of which it comes, by which transition. -/
abbrev cvS : Type := Nat × (Nat → Nat → Nat) × (Nat → Nat) × (Nat → Nat)
def cvRow (tk pt : Nat → Nat → Nat) (v : Nat → Nat) (t p : Nat) : Nat := if v p = 1000000 then 1000000 else v p - tk t p + pt t p
def leP (P : Nat) (a b : Nat → Nat) : Prop := ∀ p, p < P → a p ≤ b p
noncomputable def cvGr (P : Nat) (a r : Nat → Nat) : Nat → Nat := cif (leP P a r) (fun p => if p < P ∧ a p < r p then 1000000 else r p) r
noncomputable def cvUp (P : Nat) (h : Nat → Nat → Nat) (og : Nat → Nat) : Nat → Nat → (Nat → Nat) → (Nat → Nat)
  | 0, _, r => r
  | f + 1, k, r => if k = 0 then cvGr P (h 0) r else cvUp P h og f (og k) (cvGr P (h k) r)
def enS (P : Nat) (tk : Nat → Nat → Nat) (v : Nat → Nat) (t : Nat) : Prop := ∀ p, p < P → tk t p ≤ v p
noncomputable def cvAdd (P : Nat) (tk pt : Nat → Nat → Nat) (S : cvS) (i t : Nat) : cvS := (S.1 + 1, (fun k => if k = S.1 then cvUp P S.2.1 S.2.2.1 (i + 1) i (cvRow tk pt (S.2.1 i) t) else S.2.1 k), updN S.2.2.1 S.1 i, updN S.2.2.2 S.1 t)
noncomputable def cvSt (P : Nat) (tk pt : Nat → Nat → Nat) (S : cvS) (i t : Nat) : cvS := cif (S.1 ≤ 200 ∧ enS P tk (S.2.1 i) t) (cvAdd P tk pt S i t) S
noncomputable def cvF (P : Nat) (tk pt : Nat → Nat → Nat) (S : cvS) (i : Nat) : Nat → cvS
  | 0 => S
  | t + 1 => cvSt P tk pt (cvF P tk pt S i t) i t
def oldS (P : Nat) (h : Nat → Nat → Nat) (i : Nat) : Prop := ∃ j, j < i ∧ ∀ p, p < P → h i p = h j p
noncomputable def cvB (P T : Nat) (tk pt : Nat → Nat → Nat) (mk : Nat → Nat) : Nat → cvS
  | 0 => (1, fun _ => mk, fun _ => 0, fun _ => 0)
  | i + 1 => cif (i < (cvB P T tk pt mk i).1 ∧ (cvB P T tk pt mk i).1 ≤ 200 ∧ ¬ oldS P (cvB P T tk pt mk i).2.1 i) (cvF P tk pt (cvB P T tk pt mk i) i T) (cvB P T tk pt mk i)
/-- the tree -/
noncomputable def cvZ (P T : Nat) (tk pt : Nat → Nat → Nat) (mk : Nat → Nat) : cvS := cvB P T tk pt mk 201
noncomputable def endS (P T : Nat) (tk : Nat → Nat → Nat) (h : Nat → Nat → Nat) (i : Nat) : Nat := cif (oldS P h i) 2 (cif (∃ t, t < T ∧ enS P tk (h i) t) 0 1)
def cvOk (S : cvS) : Prop := 1 ≤ S.1 ∧ S.1 ≤ 201 ∧ (∀ k, 0 < k → k < S.1 → S.2.2.1 k < k) ∧ (∀ k p, k < S.1 → S.2.1 k p = 1000000 ∨ S.2.1 k p ≤ 99 + 9 * k) ∧ (∀ k, S.2.2.2 k < 10)
section CV
variable {P T : Nat} {tk pt : Nat → Nat → Nat} {fi mk : Nat → Nat} {S : cvS} {i t : Nat}
theorem cvGr_b {a r : Nat → Nat} {M : Nat} (h : ∀ p, r p = 1000000 ∨ r p ≤ M) (p : Nat) : cvGr P a r p = 1000000 ∨ cvGr P a r p ≤ M := by
  unfold cvGr
  by_cases q : leP P a r
  · rw [cif_t q]
    by_cases q2 : p < P ∧ a p < r p
    · exact Or.inl (if_pos q2)
    · rw [if_neg q2]; exact h p
  · rw [cif_f q]; exact h p
theorem cvUp_b {h : Nat → Nat → Nat} {og : Nat → Nat} {M : Nat} : ∀ f k (r : Nat → Nat), (∀ p, r p = 1000000 ∨ r p ≤ M) → ∀ p, cvUp P h og f k r p = 1000000 ∨ cvUp P h og f k r p ≤ M := by
  intro f
  induction f with
  | zero => intro k r hr p; exact hr p
  | succ f ih =>
    intro k r hr p
    unfold cvUp
    by_cases q : k = 0
    · rw [if_pos q]; exact cvGr_b hr p
    · rw [if_neg q]; exact ih _ _ (cvGr_b hr) p
theorem cvRow_b {v : Nat → Nat} {M : Nat} (hk : okNet P T tk pt fi) (h : ∀ p, v p = 1000000 ∨ v p ≤ M) (p : Nat) : cvRow tk pt v t p = 1000000 ∨ cvRow tk pt v t p ≤ M + 9 := by
  unfold cvRow
  by_cases q : v p = 1000000
  · exact Or.inl (if_pos q)
  · rw [if_neg q]
    have := h p
    have := hk.2.2.2.1 t p
    omega
theorem cvAdd_ok (hk : okNet P T tk pt fi) (hS : cvOk S) (h2 : S.1 ≤ 200) (hi : i < S.1) (ht : t < 10) : cvOk (cvAdd P tk pt S i t) := by
  obtain ⟨a1, a2, a3, a4, a5⟩ := hS
  refine ⟨by show 1 ≤ S.1 + 1; omega, by show S.1 + 1 ≤ 201; omega, ?_, ?_, ?_⟩
  · intro k h1 h2
    have h2' : k < S.1 + 1 := h2
    show updN S.2.2.1 S.1 i k < k
    by_cases e : k = S.1
    · rw [e, updN_s]; omega
    · rw [updN_n e]; exact a3 k h1 (by omega)
  · intro k p h1
    have h1' : k < S.1 + 1 := h1
    show (if k = S.1 then cvUp P S.2.1 S.2.2.1 (i + 1) i (cvRow tk pt (S.2.1 i) t) else S.2.1 k) p = 1000000 ∨ (if k = S.1 then cvUp P S.2.1 S.2.2.1 (i + 1) i (cvRow tk pt (S.2.1 i) t) else S.2.1 k) p ≤ 99 + 9 * k
    by_cases e : k = S.1
    · rw [if_pos e]
      have := cvUp_b (P := P) (h := S.2.1) (og := S.2.2.1) (i + 1) i _ (cvRow_b (t := t) hk (fun p => a4 i p hi)) p
      omega
    · rw [if_neg e]; exact a4 k p (by omega)
  · intro k
    show updN S.2.2.2 S.1 t k < 10
    by_cases e : k = S.1
    · rw [e, updN_s]; omega
    · rw [updN_n e]; exact a5 k
theorem cvSt_ok (hk : okNet P T tk pt fi) (hS : cvOk S) (hi : i < S.1) (ht : t < 10) : cvOk (cvSt P tk pt S i t) := by
  unfold cvSt
  by_cases q : S.1 ≤ 200 ∧ enS P tk (S.2.1 i) t
  · rw [cif_t q]; exact cvAdd_ok hk hS q.1 hi ht
  · rw [cif_f q]; exact hS
theorem cvSt_ge : S.1 ≤ (cvSt P tk pt S i t).1 := by
  unfold cvSt
  by_cases q : S.1 ≤ 200 ∧ enS P tk (S.2.1 i) t
  · rw [cif_t q]; show S.1 ≤ S.1 + 1; omega
  · rw [cif_f q]; exact Nat.le_refl _
theorem cvSt_h {k : Nat} (h : k < S.1) : (cvSt P tk pt S i t).2.1 k = S.2.1 k := by
  unfold cvSt
  by_cases q : S.1 ≤ 200 ∧ enS P tk (S.2.1 i) t
  · rw [cif_t q]; exact if_neg (by omega)
  · rw [cif_f q]
theorem cvF_all (hk : okNet P T tk pt fi) (hS : cvOk S) (hi : i < S.1) : ∀ t, t ≤ 10 → cvOk (cvF P tk pt S i t) ∧ S.1 ≤ (cvF P tk pt S i t).1 ∧ ∀ k, k < S.1 → (cvF P tk pt S i t).2.1 k = S.2.1 k := by
  intro t
  induction t with
  | zero => intro _; exact ⟨hS, Nat.le_refl _, fun _ _ => rfl⟩
  | succ t ih =>
    intro ht
    obtain ⟨a, b, c⟩ := ih (by omega)
    refine ⟨cvSt_ok hk a (by omega) (by omega), Nat.le_trans b cvSt_ge, fun k hk' => ?_⟩
    show (cvSt P tk pt (cvF P tk pt S i t) i t).2.1 k = _
    rw [cvSt_h (by omega), c k hk']
theorem cvB_all (hk : okNet P T tk pt fi) (hm : ∀ p, mk p ≤ 99) : ∀ i, cvOk (cvB P T tk pt mk i) ∧ (cvB P T tk pt mk i).1 ≤ (cvB P T tk pt mk (i + 1)).1 ∧ ∀ k, k < (cvB P T tk pt mk i).1 → (cvB P T tk pt mk (i + 1)).2.1 k = (cvB P T tk pt mk i).2.1 k := by
  have h1 : ∀ i, cvOk (cvB P T tk pt mk i) → cvOk (cvB P T tk pt mk (i + 1)) ∧ (cvB P T tk pt mk i).1 ≤ (cvB P T tk pt mk (i + 1)).1 ∧ ∀ k, k < (cvB P T tk pt mk i).1 → (cvB P T tk pt mk (i + 1)).2.1 k = (cvB P T tk pt mk i).2.1 k := by
    intro i h
    rw [show cvB P T tk pt mk (i + 1) = cif _ _ _ from rfl]
    by_cases q : i < (cvB P T tk pt mk i).1 ∧ (cvB P T tk pt mk i).1 ≤ 200 ∧ ¬ oldS P (cvB P T tk pt mk i).2.1 i
    · rw [cif_t q]
      exact cvF_all hk h q.1 T hk.2.1
    · rw [cif_f q]; exact ⟨h, Nat.le_refl _, fun _ _ => rfl⟩
  have h2 : ∀ i, cvOk (cvB P T tk pt mk i) := by
    intro i
    induction i with
    | zero =>
      refine ⟨Nat.le_refl _, by show 1 ≤ 201; omega, fun k h1 h2 => ?_, fun k p h => Or.inr ?_, fun k => by show 0 < 10; omega⟩
      · have h2' : k < 1 := h2; omega
      · show mk p ≤ _; have := hm p; omega
    | succ i ih => exact (h1 i ih).1
  exact fun i => ⟨h2 i, (h1 i (h2 i)).2⟩
theorem cvB_end (h : ¬ (i < (cvB P T tk pt mk i).1 ∧ (cvB P T tk pt mk i).1 ≤ 200)) : ∀ j, cvB P T tk pt mk (i + j) = cvB P T tk pt mk i := by
  intro j
  induction j with
  | zero => rfl
  | succ j ih =>
    show cif _ _ _ = _
    rw [cif_f]
    · exact ih
    · intro z
      have z' : i + j < (cvB P T tk pt mk (i + j)).1 ∧ (cvB P T tk pt mk (i + j)).1 ≤ 200 := ⟨z.1, z.2.1⟩
      rw [ih] at z'
      exact h ⟨by omega, z'.2⟩
theorem cvZ_of (hi : i ≤ 201) (h : ¬ (i < (cvB P T tk pt mk i).1 ∧ (cvB P T tk pt mk i).1 ≤ 200)) : cvZ P T tk pt mk = cvB P T tk pt mk i := by
  have := cvB_end h (201 - i)
  rw [show i + (201 - i) = 201 by omega] at this
  exact this
theorem oldS_cg {h h' : Nat → Nat → Nat} (e : ∀ k, k ≤ i → h k = h' k) : oldS P h i ↔ oldS P h' i := by
  constructor
  · rintro ⟨j, h1, h2⟩; exact ⟨j, h1, fun p hp => by rw [← e i (Nat.le_refl _), ← e j (by omega)]; exact h2 p hp⟩
  · rintro ⟨j, h1, h2⟩; exact ⟨j, h1, fun p hp => by rw [e i (Nat.le_refl _), e j (by omega)]; exact h2 p hp⟩
theorem endS_cg {h h' : Nat → Nat → Nat} (e : ∀ k, k ≤ i → h k = h' k) : endS P T tk h i = endS P T tk h' i := by
  unfold endS
  rw [cif_cg (oldS_cg e), e i (Nat.le_refl _)]
end CV
/-- how a node's origin or transition is told: none of node 0 -/
def oI (f : Nat → Nat) (k : Nat) : Int32 := if k = 0 then -1 else nI (f k)
theorem oI_0 {f : Nat → Nat} : oI f 0 = -1 := rfl
theorem oI_n {f : Nat → Nat} {k : Nat} (h : k ≠ 0) : oI f k = nI (f k) := if_neg h
theorem oI_up {f : Nat → Nat} {k N v : Nat} (h : k ≠ N) : oI (updN f N v) k = oI f k := by
  unfold oI
  rw [updN_n h]
