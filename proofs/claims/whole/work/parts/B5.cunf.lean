/-! The class Unfolding: the matrix of what can hold at once. -/
theorem shr5 : ∀ n, n < 128 → (nI n >>> ((5 : Int32) &&& 31)) = nI (n / 32) := by decide +kernel
theorem and31 : ∀ n, n < 128 → (nI n &&& 31) = nI (n % 32) := by decide +kernel
theorem sh1b : ∀ l, l < 32 → ∀ i, i < 32 → bt ((1 : Int32) <<< nI l) i = decide (i = l) := by decide +kernel
theorem anb1 {y : Int32} : (y &&& 1) = 1 ↔ bt y 0 = true := by
  have b1 : ∀ i, i < 32 → bt 1 i = decide (i = 0) := by decide +kernel
  constructor
  · intro h
    have := b_and y 1 0
    rw [h, b1 0 (by decide)] at this
    revert this
    cases bt y 0 <;> decide
  · intro h
    refine b_ext fun i hi => ?_
    rw [b_and, b1 i hi]
    by_cases q : i = 0
    · rw [q, h]; rfl
    · rw [decide_eq_false q, Bool.and_false]
theorem rdb {x : Int32} {l : Nat} (hl : l < 32) : (((x.toUInt32 >>> ((nI l).toUInt32 &&& Int32.toUInt32 31)).toInt32) &&& 1) = 1 ↔ bt x l = true := by
  rw [anb1, b_ushr l hl, Nat.add_zero]
/-- the bit for b in the row of a -/
def tg (f : Nat → Int32) (a b : Nat) : Prop := bt (f (a * 3 + b / 32)) (b % 32) = true
def bsd (f : Nat → Int32) (b : Nat) : Prop := bt (f (b / 32)) (b % 32) = true
theorem tg_set {f : Nat → Int32} {a b x y : Nat} (hb : b < 96) (hy : y < 96) : tg (upd f (a * 3 + b / 32) (f (a * 3 + b / 32) ||| ((1 : Int32) <<< nI (b % 32)))) x y ↔ tg f x y ∨ (x = a ∧ y = b) := by
  unfold tg
  by_cases q : x * 3 + y / 32 = a * 3 + b / 32
  · have hx : x = a ∧ y / 32 = b / 32 := by omega
    rw [q, up_s, b_or, Bool.or_eq_true, sh1b _ (by omega) _ (by omega), decide_eq_true_eq]
    exact or_congr Iff.rfl ⟨fun h => ⟨hx.1, by omega⟩, fun h => by rw [h.2]⟩
  · rw [up_n q]
    exact ⟨Or.inl, fun h => h.elim id (fun h => absurd (by rw [h.1, h.2]) q)⟩
theorem tg_fill {f : Nat → Int32} {a x y : Nat} (hy : y < 96) : tg (filled f (a * 3) (a * 3 + 3) 0) x y ↔ x ≠ a ∧ tg f x y := by
  unfold tg filled
  by_cases q : x = a
  · subst q
    rw [if_pos (by omega), b_0]
    exact ⟨(fun h => by cases h), fun h => absurd rfl h.1⟩
  · rw [if_neg (by omega)]
    exact ⟨fun h => ⟨q, h⟩, fun h => h.2⟩
def ogV (o : Nat) : Int32 := if o = 0 then -1 else nI (o - 1)
theorem ogV_eq {a b : Nat} (ha : a < 100) (hb : b < 100) : ogV a = ogV b ↔ a = b := by
  unfold ogV
  by_cases p : a = 0
  · by_cases q : b = 0
    · rw [if_pos p, if_pos q]; exact ⟨fun _ => by omega, fun _ => rfl⟩
    · rw [if_pos p, if_neg q]; exact ⟨fun h => absurd h.symm (neg1_ne (by omega)), fun h => by omega⟩
  · by_cases q : b = 0
    · rw [if_neg p, if_pos q]; exact ⟨fun h => absurd h (neg1_ne (by omega)), fun h => by omega⟩
    · rw [if_neg p, if_neg q, nIeq (by omega) (by omega)]; omega
section CUNF
variable {d c k o : Nat} {og : Nat → Nat} {m : mMem} {Q : Option Value → mMem → Prop}
theorem ev_joinOthers (hd : 3 ≤ d) (hT : mWT m) (hO : m.1 c = some (.inr 7) ∧ c ≠ 0) (hk : k < 80) (ho : o < 100) (hog : ∀ i, i < k → m.2.2.1 (64 * c + 8) i = ogV (og i)) (hog2 : ∀ i, i < k → og i < 100)
    (hQ : ∀ m', mTo (fun j => j = 64 * c + 9) (fun _ _ => False) m m' → (∀ x y, x < 80 → y < 96 → (tg (m'.2.2.1 (64 * c + 9)) x y ↔ (x = k ∧ y < k ∧ (og y = o ∨ bsd (m.2.2.1 (64 * c + 13)) y)) ∨ (x ≠ k ∧ (tg (m.2.2.1 (64 * c + 9)) x y ∨ (y = k ∧ x < k ∧ (og x = o ∨ bsd (m.2.2.1 (64 * c + 13)) x)))))) → Q none m') : mEv d 127 [.ref c, .int (nI k), .int (ogV o)] m Q := by
  refine mEv.at (by omega) G127 (Nat.le_of_ble_eq_true rfl) ?_
  refine bk127_0 hT hO ?_
  rw [l3, nI_mul, nI_add]
  refine ev_fillR (by omega) hT (hT.arr hO 8 rfl (by decide)) (by decide) (by omega) (by omega) ?_
  have T1 : mTo (fun j => j = 64 * c + 9) (fun _ _ => False) m (mSetI m (64 * c + 9) (filled (m.2.2.1 (64 * c + 9)) (k * 3) (k * 3 + 3) 0)) := (mTo.rf hT).sI rfl
  refine bk127_16 T1.wt (T1.ob hO) ?_
  have main : ∀ n i m1, n + i = k → mTo (fun j => j = 64 * c + 9) (fun _ _ => False) m m1 → (∀ x y, x < 80 → y < 96 → (tg (m1.2.2.1 (64 * c + 9)) x y ↔ (x = k ∧ y < i ∧ (og y = o ∨ bsd (m.2.2.1 (64 * c + 13)) y)) ∨ (x ≠ k ∧ (tg (m.2.2.1 (64 * c + 9)) x y ∨ (y = k ∧ x < i ∧ (og x = o ∨ bsd (m.2.2.1 (64 * c + 13)) x)))))) → mEs (d - 1) 127 c g127 (18, [some (.ref c), some (.int (nI k)), some (.int (ogV o)), some (.int (nI i))], [], m1) Q := by
    intro n
    induction n with
    | zero =>
      intro i m1 hi T' h
      obtain rfl : i = k := by omega
      refine bk127_18 T'.wt (T'.ob hO) ⟨fun _ => hQ m1 T' h, fun z => absurd ((nIle (by omega) (by omega)).mpr (Nat.le_refl _)) z⟩
    | succ n ih =>
      intro i m1 hi T' h
      have e8 : m1.2.2.1 (64 * c + 8) i = ogV (og i) := by rw [T'.i (by omega)]; exact hog i (by omega)
      have oi := hog2 i (by omega)
      have e13 : m1.2.2.1 (64 * c + 13) = m.2.2.1 (64 * c + 13) := T'.i (by omega)
      have yes : (og i = o ∨ bsd (m.2.2.1 (64 * c + 13)) i) → mEs (d - 1) 127 c g127 (18, [some (.ref c), some (.int (nI k)), some (.int (ogV o)), some (.int (nI (i + 1)))], [], mSetI (mSetI m1 (64 * c + 9) (upd (m1.2.2.1 (64 * c + 9)) (k * 3 + i / 32) (m1.2.2.1 (64 * c + 9) (k * 3 + i / 32) ||| ((1 : Int32) <<< nI (i % 32))))) (64 * c + 9) (upd (upd (m1.2.2.1 (64 * c + 9)) (k * 3 + i / 32) (m1.2.2.1 (64 * c + 9) (k * 3 + i / 32) ||| ((1 : Int32) <<< nI (i % 32)))) (i * 3 + k / 32) (upd (m1.2.2.1 (64 * c + 9)) (k * 3 + i / 32) (m1.2.2.1 (64 * c + 9) (k * 3 + i / 32) ||| ((1 : Int32) <<< nI (i % 32))) (i * 3 + k / 32) ||| ((1 : Int32) <<< nI (k % 32))))) Q := by
        intro J
        refine ih (i + 1) _ (by omega) ((T'.sI rfl).sI rfl) ?_
        intro x y hx hy
        rw [rdI_same, tg_set (by omega) hy, tg_set (by omega) hy, h x y hx hy]
        constructor
        · rintro (((⟨h1, h2, h3⟩ | ⟨h1, h2 | ⟨h2, h3, h4⟩⟩) | ⟨h1, h2⟩) | ⟨h1, h2⟩)
          · exact Or.inl ⟨h1, by omega, h3⟩
          · exact Or.inr ⟨h1, Or.inl h2⟩
          · exact Or.inr ⟨h1, Or.inr ⟨h2, by omega, h4⟩⟩
          · exact Or.inl ⟨h1, by omega, by rw [h2]; exact J⟩
          · exact Or.inr ⟨by omega, Or.inr ⟨h2, by omega, by rw [h1]; exact J⟩⟩
        · rintro (⟨h1, h2, h3⟩ | ⟨h1, h2 | ⟨h2, h3, h4⟩⟩)
          · by_cases q : y = i
            · exact Or.inl (Or.inr ⟨h1, q⟩)
            · exact Or.inl (Or.inl (Or.inl ⟨h1, by omega, h3⟩))
          · exact Or.inl (Or.inl (Or.inr ⟨h1, Or.inl h2⟩))
          · by_cases q : x = i
            · exact Or.inr ⟨q, h2⟩
            · exact Or.inl (Or.inl (Or.inr ⟨h1, Or.inr ⟨h2, by omega, h4⟩⟩))
      have no : ¬ (og i = o ∨ bsd (m.2.2.1 (64 * c + 13)) i) → mEs (d - 1) 127 c g127 (18, [some (.ref c), some (.int (nI k)), some (.int (ogV o)), some (.int (nI (i + 1)))], [], m1) Q := by
        intro J
        refine ih (i + 1) m1 (by omega) T' ?_
        intro x y hx hy
        rw [h x y hx hy]
        constructor
        · rintro (⟨h1, h2, h3⟩ | ⟨h1, h2 | ⟨h2, h3, h4⟩⟩)
          · exact Or.inl ⟨h1, by omega, h3⟩
          · exact Or.inr ⟨h1, Or.inl h2⟩
          · exact Or.inr ⟨h1, Or.inr ⟨h2, by omega, h4⟩⟩
        · rintro (⟨h1, h2, h3⟩ | ⟨h1, h2 | ⟨h2, h3, h4⟩⟩)
          · refine Or.inl ⟨h1, Nat.lt_of_not_le fun q => J ?_, h3⟩
            rw [show i = y by omega]; exact h3
          · exact Or.inr ⟨h1, Or.inl h2⟩
          · refine Or.inr ⟨h1, Or.inr ⟨h2, Nat.lt_of_not_le fun q => J ?_, h4⟩⟩
            rw [show i = x by omega]; exact h4
      have b13 : bsd (m.2.2.1 (64 * c + 13)) i ↔ (((((m.2.2.1 (64 * c + 13) (i / 32)).toUInt32 >>> ((nI (i % 32)).toUInt32 &&& Int32.toUInt32 31)).toInt32) &&& 1) = 1) := (rdb (by omega)).symm
      refine bk127_18 T'.wt (T'.ob hO) ?_
      simp (disch := omega) only [forall_eq, l3, shr5, and31, Nat.mod_mod, nI_mul, nI_add, nI_clamp, nIle, nIin_iff, nIinc, e8, e13, ogV_eq, ← b13, rdI_same]
      refine ⟨fun z => by omega, fun _ => ⟨by omega, fun z => ⟨by omega, by omega, by omega, by omega, yes (Or.inl z)⟩, fun z => ⟨by omega, fun z2 => no (fun q => q.elim z z2), fun z2 => ⟨by omega, by omega, by omega, by omega, yes (Or.inr (Classical.not_not.mp z2))⟩⟩⟩⟩
  refine main k 0 _ (by omega) T1 ?_
  intro x y hx hy
  rw [rdI_same, tg_fill hy]
  constructor
  · rintro ⟨h1, h2⟩
    exact Or.inr ⟨h1, Or.inl h2⟩
  · rintro (⟨_, h2, _⟩ | ⟨h1, h2 | ⟨_, h2, _⟩⟩)
    · omega
    · exact ⟨h1, h2⟩
    · omega
end CUNF
