/-! MARKINGS that can be come to, in plain form. -/
/-- how many, what each has, of which it was met, by which transition, how far, to which each leads -/
abbrev rcS : Type := Nat × (Nat → Nat → Nat) × (Nat → Nat) × (Nat → Nat) × (Nat → Nat) × (Nat → Nat → Nat)
def rSame (P : Nat) (a b : Nat → Nat) : Prop := ∀ p, p < P → a p = b p
/-- the least below N with C, or N -/
noncomputable def lsN (C : Nat → Prop) : Nat → Nat
  | 0 => 0
  | k + 1 => cif (lsN C k < k) (lsN C k) (cif (C k) k (k + 1))
theorem lsN_all (C : Nat → Prop) : ∀ N, lsN C N ≤ N ∧ (lsN C N < N → C (lsN C N)) ∧ ∀ j, j < lsN C N → ¬ C j := by
  intro N
  induction N with
  | zero => exact ⟨Nat.le_refl _, fun h => absurd h (Nat.not_lt_zero _), fun j h => absurd h (Nat.not_lt_zero _)⟩
  | succ N ih =>
    rw [show lsN C (N + 1) = cif (lsN C N < N) (lsN C N) (cif (C N) N (N + 1)) from rfl]
    by_cases q : lsN C N < N
    · rw [cif_t q]; exact ⟨by omega, fun _ => ih.2.1 q, ih.2.2⟩
    · rw [cif_f q]
      have e : lsN C N = N := by omega
      rw [e] at ih
      by_cases q2 : C N
      · rw [cif_t q2]; exact ⟨by omega, fun _ => q2, ih.2.2⟩
      · rw [cif_f q2]
        refine ⟨Nat.le_refl _, fun h => by omega, fun j hj => ?_⟩
        by_cases e2 : j = N
        · subst e2; exact q2
        · exact ih.2.2 j (by omega)
theorem lsN_eq {C : Nat → Prop} {N k : Nat} (h1 : k ≤ N) (h2 : k < N → C k) (h3 : ∀ j, j < k → ¬ C j) : lsN C N = k := by
  obtain ⟨a, b, c⟩ := lsN_all C N
  rcases Nat.lt_trichotomy (lsN C N) k with h | h | h
  · exact absurd (b (by omega)) (h3 _ h)
  · exact h
  · exact absurd (h2 (by omega)) (c k h)
def rcSet (S : rcS) (i t to : Nat) : rcS := (S.1, S.2.1, S.2.2.1, S.2.2.2.1, S.2.2.2.2.1, fun k u => if k = i ∧ u = t then to else S.2.2.2.2.2 k u)
def rcNew (S : rcS) (i t : Nat) (row : Nat → Nat) : rcS := (S.1 + 1, (fun k => if k = S.1 then row else S.2.1 k), updN S.2.2.1 S.1 i, updN S.2.2.2.1 S.1 t, updN S.2.2.2.2.1 S.1 (S.2.2.2.2.1 i + 1), S.2.2.2.2.2)
noncomputable def rcTo (P : Nat) (S : rcS) (row : Nat → Nat) : Nat := lsN (fun k => rSame P (S.2.1 k) row) S.1
noncomputable def rcGo (P : Nat) (tk pt : Nat → Nat → Nat) (S : rcS) (i t : Nat) : rcS := cif (rcTo P S (frd tk pt (S.2.1 i) t) = S.1) (rcSet (rcNew S i t (frd tk pt (S.2.1 i) t)) i t S.1) (rcSet S i t (rcTo P S (frd tk pt (S.2.1 i) t)))
noncomputable def rcSt (P : Nat) (tk pt : Nat → Nat → Nat) (S : rcS) (i t : Nat) : rcS := cif (S.1 ≤ 300 ∧ rdyS P tk pt (S.2.1 i) t) (rcGo P tk pt S i t) S
noncomputable def rcF (P : Nat) (tk pt : Nat → Nat → Nat) (S : rcS) (i : Nat) : Nat → rcS
  | 0 => S
  | t + 1 => rcSt P tk pt (rcF P tk pt S i t) i t
def rc0 (mk : Nat → Nat) : rcS := (1, fun _ => mk, fun _ => 0, fun _ => 0, fun _ => 0, fun _ _ => 0)
noncomputable def rcB (P T : Nat) (tk pt : Nat → Nat → Nat) (mk : Nat → Nat) : Nat → rcS
  | 0 => rc0 mk
  | i + 1 => cif (i < (rcB P T tk pt mk i).1 ∧ (rcB P T tk pt mk i).1 ≤ 300) (rcF P tk pt (rcB P T tk pt mk i) i T) (rcB P T tk pt mk i)
noncomputable def rcZ (P T : Nat) (tk pt : Nat → Nat → Nat) (mk : Nat → Nat) : rcS := rcB P T tk pt mk 301
def rcOk (P : Nat) (S : rcS) : Prop := 1 ≤ S.1 ∧ S.1 ≤ 301 ∧ (∀ k, 0 < k → k < S.1 → S.2.2.1 k < k ∧ S.2.2.2.2.1 k = S.2.2.2.2.1 (S.2.2.1 k) + 1) ∧ (∀ k p, S.2.1 k p ≤ 99) ∧ (∀ k, S.2.2.2.1 k < 10) ∧ (∀ j k, j < k → k < S.1 → ¬ rSame P (S.2.1 j) (S.2.1 k)) ∧ S.2.2.2.2.1 0 = 0 ∧ (∀ k, k < S.1 → S.2.2.2.2.1 k ≤ k)
/-- where the transitions below t of i, and all of those ahead of i, lead is told -/
def rcNx (P T : Nat) (tk pt : Nat → Nat → Nat) (S : rcS) (i t : Nat) : Prop := ∀ k u, u < T → (k < i ∨ (k = i ∧ u < t)) → rdyS P tk pt (S.2.1 k) u → S.2.2.2.2.2 k u < S.1
section RC
variable {P T : Nat} {tk pt : Nat → Nat → Nat} {fi mk : Nat → Nat} {S : rcS} {i t : Nat}
theorem rcTo_le {row : Nat → Nat} : rcTo P S row ≤ S.1 := (lsN_all _ _).1
theorem rcNew_ok {row : Nat → Nat} (hS : rcOk P S) (h2 : S.1 ≤ 300) (hi : i < S.1) (ht : t < 10) (hr : ∀ p, row p ≤ 99) (hn : ∀ k, k < S.1 → ¬ rSame P (S.2.1 k) row) : rcOk P (rcNew S i t row) := by
  obtain ⟨a1, a2, a3, a4, a5, a6, a7, a8⟩ := hS
  have u0 : ∀ (f : Nat → Nat) (v k : Nat), k < S.1 → updN f S.1 v k = f k := fun f v k h => updN_n (by omega)
  refine ⟨by show 1 ≤ S.1 + 1; omega, by show S.1 + 1 ≤ 301; omega, ?_, ?_, ?_, ?_, ?_, ?_⟩
  · intro k h1 h2
    have h2' : k < S.1 + 1 := h2
    show updN S.2.2.1 S.1 i k < k ∧ updN S.2.2.2.2.1 S.1 (S.2.2.2.2.1 i + 1) k = updN S.2.2.2.2.1 S.1 (S.2.2.2.2.1 i + 1) (updN S.2.2.1 S.1 i k) + 1
    by_cases e : k = S.1
    · subst e; rw [updN_s, updN_s, u0 _ _ _ hi]; exact ⟨hi, rfl⟩
    · have := a3 k h1 (by omega)
      rw [updN_n e, updN_n e, u0 _ _ _ (by omega)]; exact this
  · intro k p
    show (if k = S.1 then row else S.2.1 k) p ≤ 99
    split
    · exact hr p
    · exact a4 k p
  · intro k
    show updN S.2.2.2.1 S.1 t k < 10
    by_cases e : k = S.1
    · rw [e, updN_s]; exact ht
    · rw [updN_n e]; exact a5 k
  · intro j k h1 h2
    have h2' : k < S.1 + 1 := h2
    show ¬ rSame P (if j = S.1 then row else S.2.1 j) (if k = S.1 then row else S.2.1 k)
    rw [if_neg (show j ≠ S.1 by omega)]
    by_cases e : k = S.1
    · rw [if_pos e]; exact hn j (by omega)
    · rw [if_neg e]; exact a6 j k h1 (by omega)
  · show updN S.2.2.2.2.1 S.1 (S.2.2.2.2.1 i + 1) 0 = 0
    rw [u0 _ _ _ (by omega)]; exact a7
  · intro k h
    have h' : k < S.1 + 1 := h
    show updN S.2.2.2.2.1 S.1 (S.2.2.2.2.1 i + 1) k ≤ k
    by_cases e : k = S.1
    · subst e; rw [updN_s]; have := a8 i hi; omega
    · rw [updN_n e]; exact a8 k (by omega)
theorem rcSt_all (hk : okNet P T tk pt fi) (hS : rcOk P S) (hi : i < S.1) (ht : t < T) : rcOk P (rcSt P tk pt S i t) ∧ S.1 ≤ (rcSt P tk pt S i t).1 ∧ (∀ k, k < S.1 → (rcSt P tk pt S i t).2.1 k = S.2.1 k) := by
  have hk2 := hk.2.1
  unfold rcSt
  by_cases q : S.1 ≤ 300 ∧ rdyS P tk pt (S.2.1 i) t
  · rw [cif_t q]
    unfold rcGo
    by_cases q2 : rcTo P S (frd tk pt (S.2.1 i) t) = S.1
    · rw [cif_t q2]
      refine ⟨rcNew_ok hS q.1 hi (by omega) (frd_99 hk (hS.2.2.2.1 i) q.2) (fun k hk' => ?_), by show S.1 ≤ S.1 + 1; omega, fun k hk' => if_neg (by omega)⟩
      have := (lsN_all (fun k => rSame P (S.2.1 k) (frd tk pt (S.2.1 i) t)) S.1).2.2 k
      unfold rcTo at q2
      rw [q2] at this
      exact this hk'
    · rw [cif_f q2]
      exact ⟨hS, Nat.le_refl _, fun _ _ => rfl⟩
  · rw [cif_f q]; exact ⟨hS, Nat.le_refl _, fun _ _ => rfl⟩
theorem rcSt_nx (hk : okNet P T tk pt fi) (hS : rcOk P S) (hi : i < S.1) (ht : t < T) (h300 : S.1 ≤ 300) (hx : rcNx P T tk pt S i t) : rcNx P T tk pt (rcSt P tk pt S i t) i (t + 1) := by
  obtain ⟨z1, z2, z3⟩ := rcSt_all (i := i) (t := t) hk hS hi ht
  intro k u hu hku hr
  rw [z3 k (by omega)] at hr
  by_cases q : rdyS P tk pt (S.2.1 i) t
  · have e : rcSt P tk pt S i t = rcGo P tk pt S i t := by unfold rcSt; rw [cif_t ⟨h300, q⟩]
    rw [e] at z2 ⊢
    unfold rcGo at z2 ⊢
    by_cases q2 : rcTo P S (frd tk pt (S.2.1 i) t) = S.1
    · rw [cif_t q2] at z2 ⊢
      show (if k = i ∧ u = t then S.1 else S.2.2.2.2.2 k u) < S.1 + 1
      split
      · omega
      · next h => have := hx k u hu (by omega) hr; omega
    · rw [cif_f q2] at z2 ⊢
      show (if k = i ∧ u = t then rcTo P S (frd tk pt (S.2.1 i) t) else S.2.2.2.2.2 k u) < S.1
      have := rcTo_le (P := P) (S := S) (row := frd tk pt (S.2.1 i) t)
      split
      · omega
      · next h => exact hx k u hu (by omega) hr
  · have e : rcSt P tk pt S i t = S := by unfold rcSt; rw [cif_f (fun z => q z.2)]
    rw [e]
    by_cases e2 : k = i ∧ u = t
    · rw [e2.1, e2.2] at hr; exact absurd hr q
    · exact hx k u hu (by omega) hr
theorem rcF_all (hk : okNet P T tk pt fi) (hS : rcOk P S) (hi : i < S.1) : ∀ t, t ≤ T → rcOk P (rcF P tk pt S i t) ∧ S.1 ≤ (rcF P tk pt S i t).1 ∧ (∀ k, k < S.1 → (rcF P tk pt S i t).2.1 k = S.2.1 k) ∧ (rcNx P T tk pt S i 0 → (rcF P tk pt S i t).1 ≤ 300 → rcNx P T tk pt (rcF P tk pt S i t) i t) := by
  intro t
  induction t with
  | zero => intro _; exact ⟨hS, Nat.le_refl _, fun _ _ => rfl, fun h _ => h⟩
  | succ t ih =>
    intro ht
    obtain ⟨a, b, c, d⟩ := ih (by omega)
    obtain ⟨a', b', c'⟩ := rcSt_all (S := rcF P tk pt S i t) (i := i) (t := t) hk a (by omega) (by omega)
    refine ⟨a', Nat.le_trans b b', fun k hk' => ?_, fun h1 h2 => ?_⟩
    · show (rcSt P tk pt (rcF P tk pt S i t) i t).2.1 k = _
      rw [c' k (by omega), c k hk']
    · have h2' : (rcSt P tk pt (rcF P tk pt S i t) i t).1 ≤ 300 := h2
      exact rcSt_nx hk a (by omega) (by omega) (by omega) (d h1 (by omega))
theorem rcF_301 {t : Nat} (h : 300 < (rcF P tk pt S i t).1) : ∀ j, rcF P tk pt S i (t + j) = rcF P tk pt S i t := by
  intro j
  induction j with
  | zero => rfl
  | succ j ih =>
    show rcSt P tk pt (rcF P tk pt S i (t + j)) i (t + j) = _
    rw [ih]
    unfold rcSt
    rw [cif_f (fun z => by omega)]
theorem rcB_all (hk : okNet P T tk pt fi) (hm : ∀ p, mk p ≤ 99) : ∀ i, rcOk P (rcB P T tk pt mk i) ∧ (rcB P T tk pt mk i).1 ≤ (rcB P T tk pt mk (i + 1)).1 ∧ (∀ k, k < (rcB P T tk pt mk i).1 → (rcB P T tk pt mk (i + 1)).2.1 k = (rcB P T tk pt mk i).2.1 k) ∧ ((rcB P T tk pt mk i).1 ≤ 300 → i ≤ (rcB P T tk pt mk i).1 → rcNx P T tk pt (rcB P T tk pt mk i) i 0) := by
  have h1 : ∀ i, rcOk P (rcB P T tk pt mk i) → rcOk P (rcB P T tk pt mk (i + 1)) ∧ (rcB P T tk pt mk i).1 ≤ (rcB P T tk pt mk (i + 1)).1 ∧ ∀ k, k < (rcB P T tk pt mk i).1 → (rcB P T tk pt mk (i + 1)).2.1 k = (rcB P T tk pt mk i).2.1 k := by
    intro i h
    rw [show rcB P T tk pt mk (i + 1) = cif _ _ _ from rfl]
    by_cases q : i < (rcB P T tk pt mk i).1 ∧ (rcB P T tk pt mk i).1 ≤ 300
    · rw [cif_t q]
      obtain ⟨a, b, c, d⟩ := rcF_all hk h q.1 T (Nat.le_refl _)
      exact ⟨a, b, c⟩
    · rw [cif_f q]; exact ⟨h, Nat.le_refl _, fun _ _ => rfl⟩
  have h2 : ∀ i, rcOk P (rcB P T tk pt mk i) := by
    intro i
    induction i with
    | zero =>
      refine ⟨Nat.le_refl _, by show 1 ≤ 301; omega, fun k h1 h2 => ?_, fun k p => hm p, fun k => by show 0 < 10; omega, fun j k h1 h2 => ?_, rfl, fun k _ => Nat.zero_le _⟩
      · have h2' : k < 1 := h2; omega
      · have h2' : k < 1 := h2; omega
    | succ i ih => exact (h1 i ih).1
  have h3 : ∀ i, (rcB P T tk pt mk i).1 ≤ 300 → i ≤ (rcB P T tk pt mk i).1 → rcNx P T tk pt (rcB P T tk pt mk i) i 0 := by
    intro i
    induction i with
    | zero => intro _ _ k u _ hku; omega
    | succ i ih =>
      intro a b
      have mo := (h1 i (h2 i)).2.1
      have e : rcB P T tk pt mk (i + 1) = cif (i < (rcB P T tk pt mk i).1 ∧ (rcB P T tk pt mk i).1 ≤ 300) (rcF P tk pt (rcB P T tk pt mk i) i T) (rcB P T tk pt mk i) := rfl
      by_cases q : i < (rcB P T tk pt mk i).1 ∧ (rcB P T tk pt mk i).1 ≤ 300
      · rw [cif_t q] at e
        rw [e] at a b ⊢
        obtain ⟨_, _, _, d⟩ := rcF_all hk (h2 i) q.1 T (Nat.le_refl _)
        have := d (ih q.2 (by omega)) a
        intro k u hu hku hr
        exact this k u hu (by omega) hr
      · rw [cif_f q] at e
        rw [e] at a b
        exact absurd ⟨by omega, a⟩ q
  exact fun i => ⟨h2 i, (h1 i (h2 i)).2.1, (h1 i (h2 i)).2.2, h3 i⟩
theorem rcB_end (h : ¬ (i < (rcB P T tk pt mk i).1 ∧ (rcB P T tk pt mk i).1 ≤ 300)) : ∀ j, rcB P T tk pt mk (i + j) = rcB P T tk pt mk i := by
  intro j
  induction j with
  | zero => rfl
  | succ j ih =>
    show cif _ _ _ = _
    rw [cif_f]
    · exact ih
    · intro z
      have z' : i + j < (rcB P T tk pt mk (i + j)).1 ∧ (rcB P T tk pt mk (i + j)).1 ≤ 300 := ⟨z.1, z.2⟩
      rw [ih] at z'
      exact h ⟨by omega, z'.2⟩
theorem rcZ_of (hi : i ≤ 301) (h : ¬ (i < (rcB P T tk pt mk i).1 ∧ (rcB P T tk pt mk i).1 ≤ 300)) : rcZ P T tk pt mk = rcB P T tk pt mk i := by
  have := rcB_end h (301 - i)
  rw [show i + (301 - i) = 301 by omega] at this
  exact this
/-- at the end all is told -/
theorem rcZ_nx (hk : okNet P T tk pt fi) (hm : ∀ p, mk p ≤ 99) (h : (rcZ P T tk pt mk).1 ≤ 300) : ∀ k u, k < (rcZ P T tk pt mk).1 → u < T → rdyS P tk pt ((rcZ P T tk pt mk).2.1 k) u → (rcZ P T tk pt mk).2.2.2.2.2 k u < (rcZ P T tk pt mk).1 := by
  -- the first i at which it ends
  have hB := rcB_all (P := P) (T := T) (tk := tk) (pt := pt) (mk := mk) hk hm
  have ex : ∃ i, i ≤ 301 ∧ i ≤ (rcB P T tk pt mk i).1 ∧ ¬ (i < (rcB P T tk pt mk i).1 ∧ (rcB P T tk pt mk i).1 ≤ 300) := by
    have gen : ∀ n i, i + n = 301 → i ≤ (rcB P T tk pt mk i).1 → ∃ i, i ≤ 301 ∧ i ≤ (rcB P T tk pt mk i).1 ∧ ¬ (i < (rcB P T tk pt mk i).1 ∧ (rcB P T tk pt mk i).1 ≤ 300) := by
      intro n
      induction n with
      | zero => intro i hi hle; exact ⟨i, by omega, hle, by omega⟩
      | succ n ih =>
        intro i hi hle
        by_cases q : i < (rcB P T tk pt mk i).1 ∧ (rcB P T tk pt mk i).1 ≤ 300
        · have := (hB i).2.1
          exact ih (i + 1) (by omega) (by omega)
        · exact ⟨i, by omega, hle, q⟩
    exact gen 301 0 (by omega) (Nat.zero_le _)
  obtain ⟨i, h1, h2, h3⟩ := ex
  have e := rcZ_of h1 h3
  rw [e] at h ⊢
  intro k u hk' hu hr
  exact (hB i).2.2.2 h h2 k u hu (by omega) hr
end RC
/-- within n firings one comes from k to one with C -/
def rTo (P T : Nat) (tk pt : Nat → Nat → Nat) (S : rcS) (C : Nat → Prop) : Nat → Nat → Prop
  | 0, k => C k
  | n + 1, k => rTo P T tk pt S C n k ∨ ∃ t, t < T ∧ rdyS P tk pt (S.2.1 k) t ∧ rTo P T tk pt S C n (S.2.2.2.2.2 k t)
def rEv (P T : Nat) (tk pt : Nat → Nat → Nat) (S : rcS) (C : Nat → Prop) (k : Nat) : Prop := ∃ n, rTo P T tk pt S C n k
section RT2
variable {P T : Nat} {tk pt : Nat → Nat → Nat} {S : rcS} {C : Nat → Prop}
theorem rTo_mono {n k : Nat} (h : rTo P T tk pt S C n k) : ∀ j, rTo P T tk pt S C (n + j) k := by
  intro j
  induction j with
  | zero => exact h
  | succ j ih => exact Or.inl ih
theorem rEv_c {k : Nat} (h : C k) : rEv P T tk pt S C k := ⟨0, h⟩
theorem rEv_s {k t : Nat} (ht : t < T) (hr : rdyS P tk pt (S.2.1 k) t) (h : rEv P T tk pt S C (S.2.2.2.2.2 k t)) : rEv P T tk pt S C k := by
  obtain ⟨n, h⟩ := h
  exact ⟨n + 1, Or.inr ⟨t, ht, hr, h⟩⟩
/-- what holds where C holds, and ahead of where it holds, holds wherever one can come to C -/
theorem rEv_ind {X : Nat → Prop} {N : Nat} (hN : ∀ k t, k < N → t < T → rdyS P tk pt (S.2.1 k) t → S.2.2.2.2.2 k t < N) (h1 : ∀ k, k < N → C k → X k) (h2 : ∀ k t, k < N → t < T → rdyS P tk pt (S.2.1 k) t → X (S.2.2.2.2.2 k t) → X k) : ∀ k, k < N → rEv P T tk pt S C k → X k := by
  rintro k hk ⟨n, h⟩
  revert k
  induction n with
  | zero => intro k hk h; exact h1 k hk h
  | succ n ih =>
    intro k hk h
    rcases h with h | ⟨t, ht, hr, h⟩
    · exact ih k hk h
    · exact h2 k t hk ht hr (ih _ (hN k t hk ht hr) h)
/-- N - 1 firings are enough -/
theorem rEv_fin {N : Nat} (hN : ∀ k t, k < N → t < T → rdyS P tk pt (S.2.1 k) t → S.2.2.2.2.2 k t < N) {k : Nat} (hk : k < N) (h : rEv P T tk pt S C k) : rTo P T tk pt S C N k := by
  -- a marking from which one comes in just j firings
  have hd : ∀ n k, k < N → rTo P T tk pt S C n k → (∀ j, j < n → ¬ rTo P T tk pt S C j k) → ∀ j, j ≤ n → ∃ q, q < N ∧ rTo P T tk pt S C j q ∧ ∀ l, l < j → ¬ rTo P T tk pt S C l q := by
    intro n
    induction n with
    | zero =>
      intro k hk h hn j hj
      obtain rfl : j = 0 := by omega
      exact ⟨k, hk, h, hn⟩
    | succ n ih =>
      intro k hk h hn j hj
      by_cases e : j = n + 1
      · subst e; exact ⟨k, hk, h, hn⟩
      · rcases h with h | ⟨t, ht, hr, h⟩
        · exact absurd h (hn n (Nat.lt_succ_self _))
        · refine ih _ (hN k t hk ht hr) h (fun l hl z => ?_) j (by omega)
          exact hn (l + 1) (by omega) (Or.inr ⟨t, ht, hr, z⟩)
  obtain ⟨n, hn⟩ := h
  -- the least n
  have ex : ∃ n, rTo P T tk pt S C n k ∧ ∀ j, j < n → ¬ rTo P T tk pt S C j k := by
    have g : ∀ n, rTo P T tk pt S C n k → ∃ n, rTo P T tk pt S C n k ∧ ∀ j, j < n → ¬ rTo P T tk pt S C j k := by
      intro n
      refine byMeas (X := fun n => rTo P T tk pt S C n k → ∃ n, rTo P T tk pt S C n k ∧ ∀ j, j < n → ¬ rTo P T tk pt S C j k) (fun n => n) (fun n ih => ?_) n
      intro h
      by_cases q : ∃ j, j < n ∧ rTo P T tk pt S C j k
      · obtain ⟨j, h1, h2⟩ := q
        exact ih j h1 h2
      · exact ⟨n, h, fun j hj z => q ⟨j, hj, z⟩⟩
    exact g n hn
  obtain ⟨n, h1, h2⟩ := ex
  have hq := hd n k hk h1 h2
  have hle : n + 1 ≤ N := by
    refine fb_holes N (n + 1) (fun j => if h : j ≤ n then (hq j h).choose else 0) (fun i hi => ?_) (fun i j hij hj => ?_)
    · rw [dif_pos (by omega)]
      exact (hq i (by omega)).choose_spec.1
    · rw [dif_pos (show i ≤ n by omega), dif_pos (show j ≤ n by omega)]
      intro e
      have a := (hq i (by omega)).choose_spec
      have b := (hq j (by omega)).choose_spec
      rw [e] at a
      exact b.2.2 i hij a.2.1
  have := rTo_mono h1 (N - n)
  rw [show n + (N - n) = N by omega] at this
  exact this
end RT2
