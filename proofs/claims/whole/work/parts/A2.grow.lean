/-! Memory that grows by an object: what stays. -/
/-- the cells of an object: itself, its arrays -/
def gwN (x a : Nat) : Prop := a = x ∨ (64 * x + 1 ≤ a ∧ a ≤ 64 * x + 63)
/-- outside of N, but for the fields F, all stays; counters: no more than u cells and w slots come -/
def gFr (F : Nat → Nat → Prop) (N : Nat → Prop) (u w : Nat) (m m' : mMem) : Prop :=
  mWT m' ∧ (∀ a, ¬ N a → m'.1 a = m.1 a) ∧ (∀ k f, ¬ N k → ¬ F k f → m'.2.1 k f = m.2.1 k f) ∧ (∀ a, ¬ N a → m'.2.2.1 a = m.2.2.1 a) ∧ (∀ a, ¬ N a → m'.2.2.2.1 a = m.2.2.2.1 a) ∧ m'.2.2.2.2.1 ≤ m.2.2.2.2.1 + u ∧ m'.2.2.2.2.2 ≤ m.2.2.2.2.2 + w
section GFR
variable {F F' : Nat → Nat → Prop} {N N' A : Nat → Prop} {m m' m1 m2 : mMem} {k f u w u' w' : Nat}
theorem gFr.wt (h : gFr F N u w m m') : mWT m' := h.1
theorem gFr.ty (h : gFr F N u w m m') (q : ¬ N k) : m'.1 k = m.1 k := h.2.1 k q
theorem gFr.ob (h : gFr F N u w m m') {y : mLy} (ho : m.1 k = some y ∧ k ≠ 0) (q : ¬ N k) : m'.1 k = some y ∧ k ≠ 0 := by rw [h.2.1 k q]; exact ho
theorem gFr.fl (h : gFr F N u w m m') (q : ¬ N k) (q2 : ¬ F k f) : m'.2.1 k f = m.2.1 k f := h.2.2.1 k f q q2
theorem gFr.nf (h : gFr F N u w m m') (q : ¬ N k) (q2 : ¬ F k f) : iF m' k f = iF m k f := by unfold iF; rw [h.2.2.1 k f q q2]
theorem gFr.i (h : gFr F N u w m m') (q : ¬ N k) : m'.2.2.1 k = m.2.2.1 k := h.2.2.2.1 k q
theorem gFr.j (h : gFr F N u w m m') (q : ¬ N k) : m'.2.2.2.1 k = m.2.2.2.1 k := h.2.2.2.2.1 k q
theorem gFr.rf (h : mWT m) : gFr F N 0 0 m m := ⟨h, fun _ _ => rfl, fun _ _ _ _ => rfl, fun _ _ => rfl, fun _ _ => rfl, Nat.le_refl _, Nat.le_refl _⟩
theorem gFr.tr (h1 : gFr F N u w m m1) (h2 : gFr F N u' w' m1 m2) : gFr F N (u + u') (w + w') m m2 :=
  ⟨h2.1, fun a q => (h2.2.1 a q).trans (h1.2.1 a q), fun k f q q2 => (h2.2.2.1 k f q q2).trans (h1.2.2.1 k f q q2), fun a q => (h2.2.2.2.1 a q).trans (h1.2.2.2.1 a q), fun a q => (h2.2.2.2.2.1 a q).trans (h1.2.2.2.2.1 a q), by have := h1.2.2.2.2.2.1; have := h2.2.2.2.2.2.1; omega, by have := h1.2.2.2.2.2.2; have := h2.2.2.2.2.2.2; omega⟩
theorem gFr.mono (h : gFr F N u w m m') (hF : ∀ k f, F k f → F' k f) (hN : ∀ k, N k → N' k) (hu : u ≤ u') (hw : w ≤ w') : gFr F' N' u' w' m m' :=
  ⟨h.1, fun a q => h.2.1 a (fun z => q (hN a z)), fun k f q q2 => h.2.2.1 k f (fun z => q (hN k z)) (fun z => q2 (hF k f z)), fun a q => h.2.2.2.1 a (fun z => q (hN a z)), fun a q => h.2.2.2.2.1 a (fun z => q (hN a z)), by have := h.2.2.2.2.2.1; omega, by have := h.2.2.2.2.2.2; omega⟩
theorem mTo.fr {G : Nat → Nat → Prop} (h : mTo A G m m') (hA : ∀ k, A k → N k) (hF : ∀ k f, G k f → F k f ∨ N k) : gFr F N 0 0 m m' :=
  ⟨h.1, fun a _ => by rw [h.2.1], fun k f q q2 => h.2.2.1 k f (fun z => (hF k f z).elim q2 q), fun a q => h.2.2.2.1 a (fun z => q (hA a z)), fun a q => h.2.2.2.2.1 a (fun z => q (hA a z)), by rw [h.2.2.2.2.2]; exact Nat.le_refl _, by rw [h.2.2.2.2.2]; exact Nat.le_refl _⟩
end GFR
abbrev owL : Type := List (Nat × Nat × FieldType × Nat)
def owSum (l : owL) : Nat := (l.map (fun r => r.2.2.2)).sum
section CTM
variable {k a f : Nat}
theorem ctL_ne {m : mMem} {r : Nat × Nat × FieldType × Nat} (h : a ≠ 64 * k + r.2.1) : (ctL m k r).2.2.1 a = m.2.2.1 a ∧ (ctL m k r).2.2.2.1 a = m.2.2.2.1 a := ⟨mRow_ne h, mRow_ne h⟩
theorem ctM_ne : ∀ (l : owL) (m : mMem), (∀ r ∈ l, a ≠ 64 * k + r.2.1) → (ctM m k l).2.2.1 a = m.2.2.1 a ∧ (ctM m k l).2.2.2.1 a = m.2.2.2.1 a := by
  intro l
  induction l with
  | nil => intro m _; exact ⟨rfl, rfl⟩
  | cons r l ih =>
    intro m h
    have i2 := ih (ctL m k r) (fun q hq => h q (List.mem_cons_of_mem _ hq))
    have i3 := ctL_ne (m := m) (k := k) (h r List.mem_cons_self)
    exact ⟨i2.1.trans i3.1, i2.2.trans i3.2⟩
theorem ctM_fk : ∀ (l : owL) (m : mMem), a ≠ k → (ctM m k l).2.1 a f = m.2.1 a f := by
  intro l
  induction l with
  | nil => intro m _; rfl
  | cons r l ih =>
    intro m h
    show (ctM (ctL m k r) k l).2.1 a f = _
    rw [ih (ctL m k r) h]
    show (mSetF (mNewA m _ _ _) k r.1 _).2.1 a f = _
    rw [rdF_nk h]
    rfl
theorem ctM_ff : ∀ (l : owL) (m : mMem), (∀ r ∈ l, f ≠ r.1) → (ctM m k l).2.1 k f = m.2.1 k f := by
  intro l
  induction l with
  | nil => intro m _; rfl
  | cons r l ih =>
    intro m h
    show (ctM (ctL m k r) k l).2.1 k f = _
    rw [ih (ctL m k r) (fun q hq => h q (List.mem_cons_of_mem _ hq))]
    show (mSetF (mNewA m _ _ _) k r.1 _).2.1 k f = _
    rw [rdF_ne (h r List.mem_cons_self)]
    rfl
theorem ctM_c : ∀ (l : owL) (m : mMem), (ctM m k l).2.2.2.2.1 = m.2.2.2.2.1 + l.length ∧ (ctM m k l).2.2.2.2.2 = m.2.2.2.2.2 + owSum l := by
  intro l
  induction l with
  | nil => intro m; exact ⟨rfl, rfl⟩
  | cons r l ih =>
    intro m
    have i2 := ih (ctL m k r)
    have e1 : (ctL m k r).2.2.2.2.1 = m.2.2.2.2.1 + 1 := rfl
    have e2 : (ctL m k r).2.2.2.2.2 = m.2.2.2.2.2 + r.2.2.2 := rfl
    refine ⟨?_, ?_⟩
    · show (ctM (ctL m k r) k l).2.2.2.2.1 = _
      rw [i2.1, e1, List.length_cons]; omega
    · show (ctM (ctL m k r) k l).2.2.2.2.2 = _
      rw [i2.2, e2]
      show _ = m.2.2.2.2.2 + (r.2.2.2 + owSum l)
      omega
theorem ctM_in : ∀ (l : owL) (m : mMem), (l.map (fun r => r.1)).Nodup → (l.map (fun r => r.2.1)).Nodup → ∀ r ∈ l, (ctM m k l).1 (64 * k + r.2.1) = some (.inl (r.2.2.1, r.2.2.2)) ∧ (ctM m k l).2.1 k r.1 = .ref (64 * k + r.2.1) ∧ (ctM m k l).2.2.1 (64 * k + r.2.1) = (fun _ => 0) ∧ (ctM m k l).2.2.2.1 (64 * k + r.2.1) = fun _ => 0 := by
  intro l
  induction l with
  | nil => intro m _ _ r hr; cases hr
  | cons q l ih =>
    intro m n1 n2 r hr
    rw [List.map_cons, List.nodup_cons] at n1 n2
    rcases List.mem_cons.mp hr with e | e
    · subst e
      have s1 : ∀ x ∈ l, 64 * k + r.2.1 ≠ 64 * k + x.2.1 := fun x hx z => n2.1 (List.mem_map.mpr ⟨x, hx, by omega⟩)
      have s2 : ∀ x ∈ l, r.1 ≠ x.1 := fun x hx z => n1.1 (List.mem_map.mpr ⟨x, hx, z.symm⟩)
      show (ctM (ctL m k r) k l).1 _ = _ ∧ (ctM (ctL m k r) k l).2.1 k r.1 = _ ∧ (ctM (ctL m k r) k l).2.2.1 _ = _ ∧ (ctM (ctL m k r) k l).2.2.2.1 _ = _
      rw [ctM_1 l _ s1, ctM_ff l _ s2, (ctM_ne l _ s1).1, (ctM_ne l _ s1).2]
      exact ⟨mRow_eq, rdF_same, mRow_eq, mRow_eq⟩
    · exact ih (ctL m k q) n1.2 n2.2 r e
end CTM
/-- an object made whole -/
def okOw (ci : Nat) (l : owL) : Prop := (l.map (fun r => r.1)).Nodup ∧ (l.map (fun r => r.2.1)).Nodup ∧ (∀ r ∈ l, 1 ≤ r.2.1 ∧ r.2.1 ≤ 63) ∧ (∀ r ∈ mOwn ci, r ∈ l) ∧ (∀ f ∈ mInts ci, mDef ci f = .int 0 ∧ ∀ r ∈ l, f ≠ r.1)
theorem made {m : mMem} {c ci : Nat} {l : owL} (hT : mWT m) (hl : okOw ci l) (hc : c ≠ 0) (h0 : ∀ a, gwN c a → m.1 a = none) :
    gFr (fun _ _ => False) (gwN c) (1 + l.length) (mNf ci + owSum l) m (ctM (mNewO m c ci) c l) ∧ (ctM (mNewO m c ci) c l).1 c = some (.inr ci) ∧ (∀ f, (∀ r ∈ l, f ≠ r.1) → (ctM (mNewO m c ci) c l).2.1 c f = mDef ci f) := by
  obtain ⟨n1, n2, hs, ho, hi⟩ := hl
  have hin := ctM_in (k := c) l (mNewO m c ci) n1 n2
  have ob : (ctM (mNewO m c ci) c l).1 c = some (.inr ci) := by
    rw [ctM_1 l _ (fun r hr => by omega)]; exact mRow_eq
  have fd : ∀ f, (∀ r ∈ l, f ≠ r.1) → (ctM (mNewO m c ci) c l).2.1 c f = mDef ci f := by
    intro f hf
    rw [ctM_ff l _ hf]
    show mRow m.2.1 c (mDef ci) c f = _
    rw [mRow_eq]
  have out : ∀ a, ¬ gwN c a → ∀ r ∈ l, a ≠ 64 * c + r.2.1 := by
    intro a ha r hr e
    have := hs r hr
    exact ha (Or.inr ⟨by omega, by omega⟩)
  have ty : ∀ a, ¬ gwN c a → (ctM (mNewO m c ci) c l).1 a = m.1 a := by
    intro a ha
    rw [ctM_1 l _ (out a ha)]
    show mRow m.1 c _ a = _
    exact mRow_ne (fun e => ha (Or.inl e))
  have fl : ∀ a f, ¬ gwN c a → (ctM (mNewO m c ci) c l).2.1 a f = m.2.1 a f := by
    intro a f ha
    have hac : a ≠ c := fun e => ha (Or.inl e)
    rw [ctM_fk l _ hac]
    show mRow m.2.1 c _ a f = _
    rw [mRow_ne hac]
  refine ⟨⟨?_, ty, fun k f hk _ => fl k f hk, fun a ha => (ctM_ne l _ (out a ha)).1, fun a ha => (ctM_ne l _ (out a ha)).2, ?_, ?_⟩, ob, fd⟩
  · intro k' ci' hk'
    by_cases e : k' = c
    · subst e
      rw [ob] at hk'
      cases hk'
      refine ⟨fun r hr => ?_, fun f hf => ?_⟩
      · obtain ⟨h1, h2, _, _⟩ := hin r (ho r hr)
        exact ⟨h2, h1⟩
      · obtain ⟨h1, h2⟩ := hi f hf
        exact ⟨0, by rw [fd f h2]; exact h1⟩
    · by_cases g : gwN c k'
      · exfalso
        rcases g with g | g
        · exact e g
        · -- a new cell there is an array; else there is none
          by_cases z : ∃ r ∈ l, k' = 64 * c + r.2.1
          · obtain ⟨r, hr, er⟩ := z
            rw [er, (hin r hr).1] at hk'
            cases hk'
          · rw [ctM_1 l _ (fun r hr er => z ⟨r, hr, er⟩)] at hk'
            have : mRow m.1 c (some (.inr ci)) k' = some (.inr ci') := hk'
            rw [mRow_ne e, h0 k' (Or.inr g)] at this
            cases this
      · rw [ty k' g] at hk'
        obtain ⟨w1, w2⟩ := hT k' ci' hk'
        refine ⟨fun r hr => ?_, fun f hf => ?_⟩
        · obtain ⟨v1, v2⟩ := w1 r hr
          rw [fl k' r.1 g]
          refine ⟨v1, ?_⟩
          have g2 : ¬ gwN c (64 * k' + r.2.1) := fun z => by rw [h0 _ z] at v2; cases v2
          rw [ty _ g2]; exact v2
        · obtain ⟨v, hv⟩ := w2 f hf
          exact ⟨v, by rw [fl k' f g]; exact hv⟩
  · rw [(ctM_c l _).1]
    show m.2.2.2.2.1 + 1 + l.length ≤ _
    omega
  · rw [(ctM_c l _).2]
    show m.2.2.2.2.2 + mNf ci + owSum l ≤ _
    omega
theorem ok40 : okOw 3 ow40 := by unfold okOw; decide
theorem ok59 : okOw 5 ow59 := by unfold okOw; decide
theorem ok98 : okOw 6 ow98 := by unfold okOw; decide
theorem ok122 : okOw 7 ow122 := by unfold okOw; decide
theorem ok80 : okOw 4 ow80 := by unfold okOw; decide
theorem ok2 : okOw 1 ow2 := by unfold okOw; decide
theorem ok3 : okOw 2 ow3 := by unfold okOw; decide
theorem ok147 : okOw 8 ow147 := by unfold okOw; decide
