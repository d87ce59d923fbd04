/-! The class as its constructor leaves it. -/
def mWone (m : mMem) (k : Nat) : Prop := ∀ ci, m.1 k = some (.inr ci) → (∀ r ∈ mOwn ci, m.2.1 k r.1 = .ref (64 * k + r.2.1) ∧ m.1 (64 * k + r.2.1) = some (.inl (r.2.2.1, r.2.2.2))) ∧ (∀ f ∈ mInts ci, ∃ v, m.2.1 k f = .int v)
def stO (k : Nat) (m m' : mMem) : Prop := m'.1 k = m.1 k ∧ (∀ f, m'.2.1 k f = m.2.1 k f) ∧ ∀ a, 64 * k + 1 ≤ a → a ≤ 64 * k + 63 → m'.1 a = m.1 a ∧ m'.2.2.1 a = m.2.2.1 a
theorem stO.tr {k : Nat} {m m1 m2 : mMem} (h1 : stO k m m1) (h2 : stO k m1 m2) : stO k m m2 :=
  ⟨h2.1.trans h1.1, fun f => (h2.2.1 f).trans (h1.2.1 f), fun a p q => ⟨(h2.2.2 a p q).1.trans (h1.2.2 a p q).1, (h2.2.2 a p q).2.trans (h1.2.2 a p q).2⟩⟩
theorem own63 : ∀ ci, ∀ r ∈ mOwn ci, 1 ≤ r.2.1 ∧ r.2.1 ≤ 63 := by
  intro ci
  unfold mOwn
  split <;> decide
theorem mWone.st {k : Nat} {m m' : mMem} (h : mWone m k) (s : stO k m m') : mWone m' k := by
  intro ci hc
  rw [s.1] at hc
  obtain ⟨h1, h2⟩ := h ci hc
  refine ⟨fun r hr => ?_, fun f hf => ?_⟩
  · have b := own63 ci r hr
    rw [s.2.1, (s.2.2 (64 * k + r.2.1) (by omega) (by omega)).1]
    exact h1 r hr
  · rw [s.2.1]; exact h2 f hf
section ST
variable {m : mMem} {c ci f k g : Nat} {l : owL} {v : Value}
theorem st_in (hl : okOw ci l) (hk : k ≠ c) (hk1 : k ≠ 1) (hd : ∀ a, 64 * k + 1 ≤ a → a ≤ 64 * k + 63 → ¬ gwN c a) (hd2 : ¬ gwN c k) : stO k m (mSetF (ctM (mNewO m c ci) c l) 1 f v) := by
  have out : ∀ a, ¬ gwN c a → ∀ r ∈ l, a ≠ 64 * c + r.2.1 := fun a ha r hr e => by
    have := hl.2.2.1 r hr
    exact ha (Or.inr ⟨by omega, by omega⟩)
  refine ⟨?_, fun f' => ?_, fun a p q => ⟨?_, ?_⟩⟩
  · rw [ty_F, ctM_1 l _ (out k hd2)]; exact nO_ne hk
  · rw [rdF_nk hk1, ctM_fk l _ hk]
    show mRow m.2.1 c _ k f' = _
    rw [mRow_ne hk]
  · rw [ty_F, ctM_1 l _ (out a (hd a p q))]; exact nO_ne (fun e => hd a p q (Or.inl e))
  · exact (ctM_ne l _ (out a (hd a p q))).1
theorem mk_in (hl : okOw ci l) (hc : c ≠ 1) (hc0 : c ≠ 0) : mWone (mSetF (ctM (mNewO m c ci) c l) 1 f v) c ∧ (mSetF (ctM (mNewO m c ci) c l) 1 f v).1 c = some (.inr ci) ∧ (∀ f', (∀ r ∈ l, f' ≠ r.1) → (mSetF (ctM (mNewO m c ci) c l) 1 f v).2.1 c f' = mDef ci f') ∧ (∀ r ∈ l, (mSetF (ctM (mNewO m c ci) c l) 1 f v).2.2.1 (64 * c + r.2.1) = fun _ => 0) := by
  obtain ⟨n1, n2, hs, ho, hi⟩ := hl
  have hin := ctM_in (k := c) l (mNewO m c ci) n1 n2
  have ob : (ctM (mNewO m c ci) c l).1 c = some (.inr ci) := by
    rw [ctM_1 l _ (fun r hr => by omega)]; exact nO_eq
  have fd : ∀ f', (∀ r ∈ l, f' ≠ r.1) → (mSetF (ctM (mNewO m c ci) c l) 1 f v).2.1 c f' = mDef ci f' := by
    intro f' hf
    rw [rdF_nk hc, ctM_ff l _ hf]
    show mRow m.2.1 c (mDef ci) c f' = _
    rw [mRow_eq]
  refine ⟨?_, ob, fd, fun r hr => (hin r hr).2.2.1⟩
  intro ci' h
  have e : some (Sum.inr ci : mLy) = some (.inr ci') := ob.symm.trans h
  cases e
  refine ⟨fun r hr => ?_, fun f' hf => ?_⟩
  · rw [rdF_nk hc]
    exact ⟨(hin r (ho r hr)).2.1, (hin r (ho r hr)).1⟩
  · exact ⟨0, by rw [fd f' (hi f' hf).2]; exact (hi f' hf).1⟩
theorem in_f (hf : g ≠ f) (hc : 1 ≠ c) : (mSetF (ctM (mNewO m c ci) c l) 1 f v).2.1 1 g = m.2.1 1 g := by
  rw [rdF_ne hf, ctM_fk l _ hc]
  show mRow m.2.1 c _ 1 g = _
  rw [mRow_ne hc]
end ST
/-- all that the constructor leaves -/
def clS (m : mMem) : Prop := mWT m ∧ (m.1 1 = some (.inr 0)) ∧ m.2.1 1 0 = .ref 65 ∧ m.2.1 1 1 = .ref 66 ∧ m.2.1 1 2 = .ref 67 ∧ iF m 1 6 = 0 ∧ iF m 1 7 = 0 ∧ iF m 1 8 = 0 ∧ (∀ f, 9 ≤ f → f ≤ 14 → m.2.1 1 f = .null) ∧ m.1 65 = some (.inr 1) ∧ iF m 65 0 = 0 ∧ m.1 66 = some (.inr 2) ∧ m.1 67 = some (.inr 2) ∧ iF m 66 0 = 0 ∧ iF m 66 1 = 0 ∧ (∀ j, 1 ≤ j → j ≤ 3 → m.2.2.1 (64 * 66 + j) = fun _ => 0) ∧ (∀ j, 4 ≤ j → j ≤ 6 → m.2.2.1 (64 * 1 + j) = fun _ => 0) ∧ (∀ a, a ≠ 1 → a < 65 ∨ (70 < a ∧ a ≤ 4160) ∨ 4352 ≤ a → m.1 a = none)
section ST2
variable {e : mMem}
theorem ok1 : (ow1.map (fun r => r.1)).Nodup ∧ (ow1.map (fun r => r.2.1)).Nodup ∧ (∀ r ∈ ow1, 4 ≤ r.2.1 ∧ r.2.1 ≤ 6) ∧ (∀ r ∈ mOwn 0, r ∈ ow1) := by decide
theorem st_z {m : mMem} {k : Nat} (hk : 1 < k) (h : k < 68 ∨ 70 < k) : stO k m (ctM m 1 ow1) := by
  refine ⟨ctM_1 ow1 m (fun r hr => ?_), fun f => ctM_fk ow1 m (by omega), fun a p q => ⟨ctM_1 ow1 m (fun r hr => ?_), (ctM_ne ow1 m (fun r hr => ?_)).1⟩⟩
  · have := ok1.2.2.1 r hr; omega
  · have := ok1.2.2.1 r hr; omega
  · have := ok1.2.2.1 r hr; omega
theorem farO : ∀ k c : Nat, 65 ≤ k → k ≤ 67 → 65 ≤ c → c ≤ 67 → k ≠ c → (∀ a, 64 * k + 1 ≤ a → a ≤ 64 * k + 63 → ¬ gwN c a) ∧ ¬ gwN c k := by
  intro k c h1 h2 h3 h4 h5
  refine ⟨fun a p q z => ?_, fun z => ?_⟩
  · unfold gwN at z; omega
  · unfold gwN at z; omega
theorem ctM_o {k a ci : Nat} : ∀ (l : owL) (m : mMem), (ctM m k l).1 a = some (.inr ci) → m.1 a = some (.inr ci) := by
  intro l
  induction l with
  | nil => intro m h; exact h
  | cons r l ih =>
    intro m h
    have h2 : (ctL m k r).1 a = some (.inr ci) := ih (ctL m k r) h
    by_cases e : a = 64 * k + r.2.1
    · exfalso
      rw [e] at h2
      have : some (Sum.inl (r.2.2.1, r.2.2.2) : mLy) = some (.inr ci) := (show (ctL m k r).1 (64 * k + r.2.1) = some (.inl (r.2.2.1, r.2.2.2)) from mRow_eq).symm.trans h2
      cases this
    · rw [ctL_1 e] at h2; exact h2
theorem arr_no (he : ∀ a, e.1 a = none) (k ci : Nat) (k1 : k ≠ 1) (k5 : k ≠ 65) (k6 : k ≠ 66) (k7 : k ≠ 67) (h : (inZ (mNewO e 1 0)).1 k = some (.inr ci)) : False := by
  have h3 : (in3 (mNewO e 1 0)).1 k = some (.inr ci) := ctM_o ow1 _ h
  have h3b := ctM_o ow3 (mNewO (in2 (mNewO e 1 0)) 67 2) h3
  rw [nO_ne k7] at h3b
  have h2b := ctM_o ow3 (mNewO (in1 (mNewO e 1 0)) 66 2) h3b
  rw [nO_ne k6] at h2b
  have h1b := ctM_o ow2 (mNewO (mNewO e 1 0) 65 1) h2b
  rw [nO_ne k5, nO_ne k1, he k] at h1b
  cases h1b
theorem ini_ok (he : ∀ a, e.1 a = none) : clS (inZ (mNewO e 1 0)) := by
  have a65 := mk_in (m := mNewO e 1 0) (c := 65) (f := 0) (v := .ref 65) ok2 (by decide) (by decide)
  have a66 := mk_in (m := in1 (mNewO e 1 0)) (c := 66) (f := 1) (v := .ref 66) ok3 (by decide) (by decide)
  have a67 := mk_in (m := in2 (mNewO e 1 0)) (c := 67) (f := 2) (v := .ref 67) ok3 (by decide) (by decide)
  have s65 : stO 65 (in1 (mNewO e 1 0)) (inZ (mNewO e 1 0)) := ((st_in (f := 1) (v := .ref 66) ok3 (by decide) (by decide) (farO 65 66 (by decide) (by decide) (by decide) (by decide) (by decide)).1 (farO 65 66 (by decide) (by decide) (by decide) (by decide) (by decide)).2).tr (st_in (f := 2) (v := .ref 67) ok3 (by decide) (by decide) (farO 65 67 (by decide) (by decide) (by decide) (by decide) (by decide)).1 (farO 65 67 (by decide) (by decide) (by decide) (by decide) (by decide)).2)).tr (st_z (by decide) (by decide))
  have s66 : stO 66 (in2 (mNewO e 1 0)) (inZ (mNewO e 1 0)) := (st_in (f := 2) (v := .ref 67) ok3 (by decide) (by decide) (farO 66 67 (by decide) (by decide) (by decide) (by decide) (by decide)).1 (farO 66 67 (by decide) (by decide) (by decide) (by decide) (by decide)).2).tr (st_z (by decide) (by decide))
  have s67 : stO 67 (in3 (mNewO e 1 0)) (inZ (mNewO e 1 0)) := st_z (by decide) (by decide)
  have f1 : ∀ g, (∀ r ∈ ow1, g ≠ r.1) → (inZ (mNewO e 1 0)).2.1 1 g = (in3 (mNewO e 1 0)).2.1 1 g := fun g h => ctM_ff ow1 _ h
  have fd : ∀ g, 6 ≤ g → (inZ (mNewO e 1 0)).2.1 1 g = mDef 0 g := by
    intro g hg
    rw [f1 g (fun r hr => by have : r.1 ≤ 5 := (show ∀ r ∈ ow1, r.1 ≤ 5 by decide) r hr; omega)]
    show (mSetF _ 1 2 _).2.1 1 g = _
    rw [in_f (by omega) (by decide)]
    show (mSetF _ 1 1 _).2.1 1 g = _
    rw [in_f (by omega) (by decide)]
    show (mSetF _ 1 0 _).2.1 1 g = _
    rw [in_f (by omega) (by decide)]
    show mRow e.2.1 1 (mDef 0) 1 g = _
    rw [mRow_eq]
  have o1 : (inZ (mNewO e 1 0)).1 1 = some (.inr 0) := by
    show (ctM _ 1 ow1).1 1 = _
    rw [ctM_1 ow1 _ (fun r hr => by have := ok1.2.2.1 r hr; omega), in3_1 (by omega), in2_1 (by omega), in1_1 (by omega)]
    exact nO_eq
  have no : ∀ a, a ≠ 1 → a < 65 ∨ (70 < a ∧ a ≤ 4160) ∨ 4352 ≤ a → (inZ (mNewO e 1 0)).1 a = none := by
    intro a h1 h2
    show (ctM _ 1 ow1).1 a = _
    rw [ctM_1 ow1 _ (fun r hr => by have := ok1.2.2.1 r hr; omega), in3_1 (by omega), in2_1 (by omega), in1_1 (by omega), nO_ne h1]
    exact he a
  have hin := ctM_in (k := 1) ow1 (in3 (mNewO e 1 0)) ok1.1 ok1.2.1
  refine ⟨?_, o1, ?_, ?_, ?_, iF_of ((fd 6 (by omega)).trans rfl), iF_of ((fd 7 (by omega)).trans rfl), iF_of ((fd 8 (by omega)).trans rfl), ?_, ?_, ?_, ?_, ?_, ?_, ?_, ?_, ?_, no⟩
  · intro k ci hk
    by_cases k1 : k = 1
    · subst k1
      rw [o1] at hk
      cases hk
      refine ⟨fun r hr => ⟨(hin r (ok1.2.2.2 r hr)).2.1, (hin r (ok1.2.2.2 r hr)).1⟩, fun f hf => ⟨0, ?_⟩⟩
      have h6 : 6 ≤ f ∧ mDef 0 f = .int 0 := (show ∀ f ∈ mInts 0, 6 ≤ f ∧ mDef 0 f = .int 0 by decide) f hf
      rw [fd f h6.1]; exact h6.2
    · by_cases k5 : k = 65
      · subst k5; exact (a65.1.st s65) ci hk
      · by_cases k6 : k = 66
        · subst k6; exact (a66.1.st s66) ci hk
        · by_cases k7 : k = 67
          · subst k7; exact (a67.1.st s67) ci hk
          · exfalso
            exact arr_no he k ci k1 k5 k6 k7 hk
  · rw [f1 0 (by decide)]
    show (mSetF _ 1 2 _).2.1 1 0 = _
    rw [in_f (by decide) (by decide)]
    show (mSetF _ 1 1 _).2.1 1 0 = _
    rw [in_f (by decide) (by decide)]
    exact rdF_same
  · rw [f1 1 (by decide)]
    show (mSetF _ 1 2 _).2.1 1 1 = _
    rw [in_f (by decide) (by decide)]
    exact rdF_same
  · rw [f1 2 (by decide)]
    exact rdF_same
  · intro f h1 h2
    rw [fd f (by omega)]
    have : ∀ f, f < 15 → 9 ≤ f → mDef 0 f = .null := by decide
    exact this f (by omega) h1
  · rw [s65.1]; exact a65.2.1
  · exact iF_of (((s65.2.1 0).trans (a65.2.2.1 0 (by decide))).trans rfl)
  · rw [s66.1]; exact a66.2.1
  · rw [s67.1]; exact a67.2.1
  · exact iF_of (((s66.2.1 0).trans (a66.2.2.1 0 (by decide))).trans rfl)
  · exact iF_of (((s66.2.1 1).trans (a66.2.2.1 1 (by decide))).trans rfl)
  · intro j h1 h2
    rw [(s66.2.2 (64 * 66 + j) (by omega) (by omega)).2]
    rcases (show j = 1 ∨ j = 2 ∨ j = 3 by omega) with rfl | rfl | rfl
    · exact a66.2.2.2 (2, 1, .int, 10) (by decide)
    · exact a66.2.2.2 (3, 2, .int, 110) (by decide)
    · exact a66.2.2.2 (4, 3, .int, 110) (by decide)
  · intro j h1 h2
    rcases (show j = 4 ∨ j = 5 ∨ j = 6 by omega) with rfl | rfl | rfl
    · exact (hin (3, 4, .int, 10) (by decide)).2.2.1
    · exact (hin (4, 5, .int, 10) (by decide)).2.2.1
    · exact (hin (5, 6, .int, 100) (by decide)).2.2.1
end ST2
