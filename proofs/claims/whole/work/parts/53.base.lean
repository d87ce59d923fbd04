/-! Base of the contracts: truth as a number, frames, loops, bits. -/
noncomputable def bz (C : Prop) : Int32 := @ite _ C (Classical.propDecidable C) 1 0
theorem bz_t {C : Prop} (h : C) : bz C = 1 := @if_pos C (Classical.propDecidable C) h _ _ _
theorem bz_f {C : Prop} (h : ¬ C) : bz C = 0 := @if_neg C (Classical.propDecidable C) h _ _ _
theorem bz_0 {C : Prop} : bz C = 0 ↔ ¬ C := by
  constructor
  · intro h q; rw [bz_t q] at h; exact absurd h (by decide)
  · exact bz_f
theorem bz_1 {C : Prop} : bz C = 1 ↔ C := by
  constructor
  · intro h
    refine Classical.byContradiction fun q => ?_
    rw [bz_f q] at h; exact absurd h (by decide)
  · exact bz_t
theorem bz_n0 {C : Prop} : ¬ bz C = 0 ↔ C := by rw [bz_0]; exact Classical.not_not
theorem bz_cg {C D : Prop} (h : C ↔ D) : bz C = bz D := by rw [propext h]
theorem bz_01 (C : Prop) : bz C = 0 ∨ bz C = 1 := (Classical.em C).elim (fun h => Or.inr (bz_t h)) (fun h => Or.inl (bz_f h))
theorem mEv.at {d mi : Nat} {as : List Value} {m : mMem} {g : mG} {Q : Option Value → mMem → Prop} (hd : 1 ≤ d) (hg : mGm[mi]? = some g) (hl : (mEa as).length ≤ g.2.2.1) (k : mEs (d - 1) mi (mBase as) g (0, mEn as g.2.2.1, [], m) Q) : mEv d mi as m Q := by
  obtain ⟨e, rfl⟩ : ∃ e, d = e + 1 := ⟨d - 1, by omega⟩
  exact mEv.of hg hl k
/-- what a call may change: arrays A, fields F; the rest stands -/
def mTo (A : Nat → Prop) (F : Nat → Nat → Prop) (m m' : mMem) : Prop :=
  mWT m' ∧ m'.1 = m.1 ∧ (∀ k f, ¬ F k f → m'.2.1 k f = m.2.1 k f) ∧ (∀ k, ¬ A k → m'.2.2.1 k = m.2.2.1 k) ∧ (∀ k, ¬ A k → m'.2.2.2.1 k = m.2.2.2.1 k) ∧ m'.2.2.2.2 = m.2.2.2.2
section MTO
variable {A A' : Nat → Prop} {F F' : Nat → Nat → Prop} {m m' m1 m2 : mMem} {k f : Nat}
theorem mTo.rf (h : mWT m) : mTo A F m m := ⟨h, rfl, fun _ _ _ => rfl, fun _ _ => rfl, fun _ _ => rfl, rfl⟩
theorem mTo.tr (h1 : mTo A F m m1) (h2 : mTo A F m1 m2) : mTo A F m m2 :=
  ⟨h2.1, h2.2.1.trans h1.2.1, fun k f q => (h2.2.2.1 k f q).trans (h1.2.2.1 k f q), fun k q => (h2.2.2.2.1 k q).trans (h1.2.2.2.1 k q), fun k q => (h2.2.2.2.2.1 k q).trans (h1.2.2.2.2.1 k q), h2.2.2.2.2.2.trans h1.2.2.2.2.2⟩
theorem mTo.mono (h : mTo A F m m') (ha : ∀ k, A k → A' k) (hf : ∀ k f, F k f → F' k f) : mTo A' F' m m' :=
  ⟨h.1, h.2.1, fun k f q => h.2.2.1 k f (fun z => q (hf k f z)), fun k q => h.2.2.2.1 k (fun z => q (ha k z)), fun k q => h.2.2.2.2.1 k (fun z => q (ha k z)), h.2.2.2.2.2⟩
theorem mTo.wt (h : mTo A F m m') : mWT m' := h.1
theorem mTo.ty (h : mTo A F m m') : m'.1 = m.1 := h.2.1
theorem mTo.ob (h : mTo A F m m') {x : mLy} (ho : m.1 k = some x ∧ k ≠ 0) : m'.1 k = some x ∧ k ≠ 0 := by rw [h.2.1]; exact ho
theorem mTo.fl (h : mTo A F m m') (q : ¬ F k f) : m'.2.1 k f = m.2.1 k f := h.2.2.1 k f q
theorem mTo.nf (h : mTo A F m m') (q : ¬ F k f) : iF m' k f = iF m k f := by unfold iF; rw [h.2.2.1 k f q]
theorem mTo.i (h : mTo A F m m') (q : ¬ A k) : m'.2.2.1 k = m.2.2.1 k := h.2.2.2.1 k q
theorem mTo.j (h : mTo A F m m') (q : ¬ A k) : m'.2.2.2.1 k = m.2.2.2.1 k := h.2.2.2.2.1 k q
theorem mTo.sI (h : mTo A F m m1) {g : Nat → Int32} (q : A k) : mTo A F m (mSetI m1 k g) :=
  ⟨h.1.setI, h.2.1, h.2.2.1, fun k' q' => by rw [rdI_ne (fun e => q' (by rw [e]; exact q))]; exact h.2.2.2.1 k' q', h.2.2.2.2.1, h.2.2.2.2.2⟩
theorem mTo.sJ (h : mTo A F m m1) {g : Nat → Int64} (q : A k) : mTo A F m (mSetJ m1 k g) :=
  ⟨h.1.setJ, h.2.1, h.2.2.1, h.2.2.2.1, fun k' q' => by rw [rdJ_ne (fun e => q' (by rw [e]; exact q))]; exact h.2.2.2.2.1 k' q', h.2.2.2.2.2⟩
theorem mTo.sF (h : mTo A F m m1) {ci : Nat} {v : Int32} (ho : m.1 k = some (.inr ci) ∧ k ≠ 0) (q : F k f) (hn : ∀ r ∈ mOwn ci, r.1 ≠ f) : mTo A F m (mSetF m1 k f (.int v)) :=
  ⟨h.1.setF (h.ob ho) hn, h.2.1, fun k' f' q' => by
    by_cases e : k' = k
    · by_cases e2 : f' = f
      · subst e; subst e2; exact absurd q q'
      · rw [rdF_ne e2]; exact h.2.2.1 k' f' q'
    · rw [rdF_nk e]; exact h.2.2.1 k' f' q', h.2.2.2.1, h.2.2.2.2.1, h.2.2.2.2.2⟩
/-- a field that holds a reference (no own array, no number) -/
theorem mTo.sR (h : mTo A F m m1) {ci : Nat} {v : Value} (ho : m.1 k = some (.inr ci) ∧ k ≠ 0) (q : F k f) (hn : ∀ r ∈ mOwn ci, r.1 ≠ f) (hn2 : f ∉ mInts ci) : mTo A F m (mSetF m1 k f v) :=
  ⟨h.1.setR (h.ob ho) hn hn2, h.2.1, fun k' f' q' => by
    by_cases e : k' = k
    · by_cases e2 : f' = f
      · subst e; subst e2; exact absurd q q'
      · rw [rdF_ne e2]; exact h.2.2.1 k' f' q'
    · rw [rdF_nk e]; exact h.2.2.1 k' f' q', h.2.2.2.1, h.2.2.2.2.1, h.2.2.2.2.2⟩
end MTO
-- reading behind writing
theorem iF_s {m : mMem} {k f : Nat} {v : Int32} : iF (mSetF m k f (.int v)) k f = v := iF_of rdF_same
theorem iF_nf {m : mMem} {k k' f f' : Nat} {v : Value} (h : f' ≠ f) : iF (mSetF m k f v) k' f' = iF m k' f' := by unfold iF; rw [rdF_ne h]
theorem iF_nk {m : mMem} {k k' f f' : Nat} {v : Value} (h : k' ≠ k) : iF (mSetF m k f v) k' f' = iF m k' f' := by unfold iF; rw [rdF_nk h]
theorem iF_I {m : mMem} {k k' f' : Nat} {g : Nat → Int32} : iF (mSetI m k g) k' f' = iF m k' f' := rfl
theorem iF_J {m : mMem} {k k' f' : Nat} {g : Nat → Int64} : iF (mSetJ m k g) k' f' = iF m k' f' := rfl
theorem rI_F {m : mMem} {k f k' : Nat} {v : Value} : (mSetF m k f v).2.2.1 k' = m.2.2.1 k' := rfl
theorem rI_J {m : mMem} {k k' : Nat} {g : Nat → Int64} : (mSetJ m k g).2.2.1 k' = m.2.2.1 k' := rfl
theorem rJ_F {m : mMem} {k f k' : Nat} {v : Value} : (mSetF m k f v).2.2.2.1 k' = m.2.2.2.1 k' := rfl
theorem rJ_I {m : mMem} {k k' : Nat} {g : Nat → Int32} : (mSetI m k g).2.2.2.1 k' = m.2.2.2.1 k' := rfl
theorem ty_F {m : mMem} {k f : Nat} {v : Value} : (mSetF m k f v).1 = m.1 := rfl
theorem ty_I {m : mMem} {k : Nat} {g : Nat → Int32} : (mSetI m k g).1 = m.1 := rfl
theorem ty_J {m : mMem} {k : Nat} {g : Nat → Int64} : (mSetJ m k g).1 = m.1 := rfl
theorem fF_I {m : mMem} {k : Nat} {g : Nat → Int32} : (mSetI m k g).2.1 = m.2.1 := rfl
theorem fF_J {m : mMem} {k : Nat} {g : Nat → Int64} : (mSetJ m k g).2.1 = m.2.1 := rfl
theorem up_s {f : Nat → Int32} {k : Nat} {x : Int32} : upd f k x k = x := if_pos rfl
theorem up_n {f : Nat → Int32} {k j : Nat} {x : Int32} (h : j ≠ k) : upd f k x j = f j := if_neg h
theorem upL_s {f : Nat → Int64} {k : Nat} {x : Int64} : vp_updL f k x k = x := if_pos rfl
theorem upL_n {f : Nat → Int64} {k j : Nat} {x : Int64} (h : j ≠ k) : vp_updL f k x j = f j := if_neg h
/-- loops that count up -/
theorem upto {X : Nat → Prop} {e : Nat} (h1 : X e) (h2 : ∀ p, p < e → X (p + 1) → X p) : ∀ p, p ≤ e → X p := by
  have h : ∀ k p, p + k = e → X p := by
    intro k
    induction k with
    | zero => intro p hp; rw [show p = e by omega]; exact h1
    | succ k ih => intro p hp; exact h2 p (by omega) (ih (p + 1) (by omega))
  intro p hp
  exact h (e - p) p (by omega)
/-- loops with a measure -/
theorem byMeas {α : Sort _} {X : α → Prop} (μ : α → Nat) (h : ∀ a, (∀ b, μ b < μ a → X b) → X a) : ∀ a, X a := by
  have g : ∀ n a, μ a < n → X a := by
    intro n
    induction n with
    | zero => intro a ha; exact absurd ha (Nat.not_lt_zero _)
    | succ n ih => intro a ha; exact h a (fun b hb => ih b (by omega))
  intro a
  exact g (μ a + 1) a (Nat.lt_succ_self _)
-- numbers
theorem nIin_iff {p n : Nat} (hp : p < 2 ^ 31) : mIn (nI p) n = true ↔ p < n := by
  rw [mIn_iff, nI_clamp hp]
  exact ⟨fun h => h.2, fun h => ⟨nI_nlt0 hp, h⟩⟩
theorem nIlt0 {a : Nat} (h : a < 2 ^ 31) : nI a < 0 ↔ False := ⟨fun q => nI_nlt0 h q, False.elim⟩
theorem nIeq0 {a : Nat} (h : a < 2 ^ 31) : nI a = 0 ↔ a = 0 := nIeq h (b := 0) (by omega)
theorem nIle0 {a : Nat} (h : a < 2 ^ 31) : nI a ≤ 0 ↔ a = 0 := (nIle h (b := 0) (by omega)).trans Nat.le_zero
theorem nIeq1 {a : Nat} (h : a < 2 ^ 31) : nI a = 1 ↔ a = 1 := nIeq h (b := 1) (by omega)
theorem nIle1 {a : Nat} (h : a < 2 ^ 31) : nI a ≤ 1 ↔ a ≤ 1 := nIle h (b := 1) (by omega)
theorem n1lt {a : Nat} (h : a < 2 ^ 31) : 1 < nI a ↔ 1 < a := nI_ltI (a := 1) (by omega) h
theorem n0le {a : Nat} (h : a < 2 ^ 31) : 0 ≤ nI a ↔ True := ⟨fun _ => trivial, fun _ => (nIle (a := 0) (by omega) h).mpr (Nat.zero_le _)⟩
theorem n0lt {a : Nat} (h : a < 2 ^ 31) : 0 < nI a ↔ 0 < a := nI_ltI (a := 0) (by omega) h
theorem nIinc (a : Nat) : nI a + 1 = nI (a + 1) := nI_1 a
theorem nIx10 (a : Nat) : nI a * 10 = nI (a * 10) := nI_mul a 10
theorem n10x (a : Nat) : 10 * nI a = nI (10 * a) := nI_mul 10 a
theorem n20x (a : Nat) : 20 * nI a = nI (20 * a) := nI_mul 20 a
theorem nIx3 (a : Nat) : nI a * 3 = nI (a * 3) := nI_mul a 3
theorem n3x (a : Nat) : 3 * nI a = nI (3 * a) := nI_mul 3 a
theorem nIdec {a : Nat} (h : 0 < a) : nI a - 1 = nI (a - 1) := pk_sub (a := a) (b := 1) h
theorem nIdec' {a : Nat} (h : 0 < a) : nI a + (-1) = nI (a - 1) := by
  obtain ⟨b, rfl⟩ : ∃ b, a = b + 1 := ⟨a - 1, by omega⟩
  exact pk_m1 b
theorem neg1_ne {a : Nat} (h : a < 2 ^ 31) : ¬ nI a = -1 := by
  intro e
  have := nI_nlt0 h
  rw [e] at this
  exact this (by decide)
theorem l2 : (2 : Int32) = nI 2 := rfl
theorem l3 : (3 : Int32) = nI 3 := rfl
theorem l4 : (4 : Int32) = nI 4 := rfl
theorem l9 : (9 : Int32) = nI 9 := rfl
theorem l10 : (10 : Int32) = nI 10 := rfl
theorem l11 : (11 : Int32) = nI 11 := rfl
theorem l12 : (12 : Int32) = nI 12 := rfl
theorem l20 : (20 : Int32) = nI 20 := rfl
theorem l30 : (30 : Int32) = nI 30 := rfl
theorem l80 : (80 : Int32) = nI 80 := rfl
theorem l90 : (90 : Int32) = nI 90 := rfl
theorem l99 : (99 : Int32) = nI 99 := rfl
theorem l100 : (100 : Int32) = nI 100 := rfl
theorem l110 : (110 : Int32) = nI 110 := rfl
theorem l200 : (200 : Int32) = nI 200 := rfl
theorem l240 : (240 : Int32) = nI 240 := rfl
theorem l252 : (252 : Int32) = nI 252 := rfl
theorem l300 : (300 : Int32) = nI 300 := rfl
theorem l1024 : (1024 : Int32) = nI 1024 := rfl
theorem l1M : (1000000 : Int32) = nI 1000000 := rfl
-- sets as bits
noncomputable def bs (C : Nat → Prop) : Nat → Nat
  | 0 => 0
  | t + 1 => bs C t ||| @ite _ (C t) (Classical.propDecidable _) (2 ^ t) 0
theorem bs_st {C : Nat → Prop} {t : Nat} (h : C t) : bs C (t + 1) = bs C t ||| 2 ^ t := by
  show bs C t ||| @ite _ (C t) (Classical.propDecidable _) (2 ^ t) 0 = _
  rw [@if_pos _ (Classical.propDecidable _) h]
theorem bs_sf {C : Nat → Prop} {t : Nat} (h : ¬ C t) : bs C (t + 1) = bs C t := by
  show bs C t ||| @ite _ (C t) (Classical.propDecidable _) (2 ^ t) 0 = _
  rw [@if_neg _ (Classical.propDecidable _) h, Nat.or_zero]
theorem bs_lt (C : Nat → Prop) : ∀ t, bs C t < 2 ^ t := by
  intro t
  induction t with
  | zero => exact Nat.one_pos
  | succ t ih =>
    have h2 : 2 ^ t < 2 ^ (t + 1) := Nat.pow_lt_pow_right (by decide) (Nat.lt_succ_self t)
    by_cases h : C t
    · rw [bs_st h]; exact Nat.or_lt_two_pow (by omega) h2
    · rw [bs_sf h]; omega
theorem bs_tb (C : Nat → Prop) (i : Nat) : ∀ t, (bs C t).testBit i = true ↔ i < t ∧ C i := by
  intro t
  induction t with
  | zero => exact ⟨fun h => (by rw [show bs C 0 = 0 from rfl, Nat.zero_testBit] at h; exact absurd h (by decide)), fun h => absurd h.1 (Nat.not_lt_zero _)⟩
  | succ t ih =>
    by_cases h : C t
    · rw [bs_st h, Nat.testBit_or, Bool.or_eq_true, ih, Nat.testBit_two_pow, decide_eq_true_eq]
      constructor
      · rintro (⟨a, b⟩ | e)
        · exact ⟨by omega, b⟩
        · subst e; exact ⟨Nat.lt_succ_self _, h⟩
      · rintro ⟨a, b⟩
        rcases Nat.lt_or_ge i t with q | q
        · exact Or.inl ⟨q, b⟩
        · exact Or.inr (by omega)
    · rw [bs_sf h, ih]
      constructor
      · rintro ⟨a, b⟩; exact ⟨by omega, b⟩
      · rintro ⟨a, b⟩
        refine ⟨?_, b⟩
        rcases Nat.lt_or_ge i t with q | q
        · exact q
        · rw [show i = t by omega] at b; exact absurd b h
theorem tb_ext {x y : Nat} (h : ∀ i, x.testBit i = true ↔ y.testBit i = true) : x = y := Nat.eq_of_testBit_eq (fun i => by rw [Bool.eq_iff_iff]; exact h i)
theorem bs_cg {C D : Nat → Prop} {t : Nat} (h : ∀ i, i < t → (C i ↔ D i)) : bs C t = bs D t := tb_ext fun i => by
  rw [bs_tb, bs_tb]
  exact ⟨fun q => ⟨q.1, (h i q.1).mp q.2⟩, fun q => ⟨q.1, (h i q.1).mpr q.2⟩⟩
theorem tb_zero {x : Nat} : x = 0 ↔ ∀ i, ¬ x.testBit i = true := by
  constructor
  · intro h i; rw [h, Nat.zero_testBit]; decide
  · intro h; exact tb_ext fun i => ⟨fun q => absurd q (h i), fun q => by rw [Nat.zero_testBit] at q; cases q⟩
theorem bs_zero {C : Nat → Prop} {t : Nat} : bs C t = 0 ↔ ∀ i, i < t → ¬ C i := by
  rw [tb_zero]
  exact ⟨fun h i hi q => h i ((bs_tb C i t).mpr ⟨hi, q⟩), fun h i q => h i ((bs_tb C i t).mp q).1 ((bs_tb C i t).mp q).2⟩
theorem bs_small (C : Nat → Prop) {t : Nat} (h : t ≤ 10) : bs C t < 1024 := Nat.lt_of_lt_of_le (bs_lt C t) (Nat.pow_le_pow_right (by decide) h)
theorem shl1 {t : Nat} (h : t < 31) : (1 : Int32) <<< (nI t &&& 31) = nI (2 ^ t) := by
  have e := pk_shlN (n := 1) (nI t &&& 31) t (s_l t (by omega)) (by rw [Nat.one_mul]; exact Nat.pow_lt_pow_right (by decide) (by omega))
  rw [Nat.one_mul] at e
  exact e
theorem shr_n {x t : Nat} (hx : x < 2 ^ 31) (h : t < 32) : nI x >>> (nI t &&& 31) = nI (x / 2 ^ t) := pk_shrN hx (nI t &&& 31) t (s_l t h)
theorem or_n (a b : Nat) : nI a ||| nI b = nI (a ||| b) := fa_or a b
theorem and_n (a b : Nat) : nI a &&& nI b = nI (a &&& b) := fa_and a b
theorem and1 (a : Nat) : nI a &&& 1 = nI (a % 2) := by
  show nI a &&& nI 1 = _
  rw [and_n, Nat.and_one_is_mod]
theorem tb_div (x t : Nat) : x / 2 ^ t % 2 = 1 ↔ x.testBit t = true := by
  rw [Nat.testBit_eq_decide_div_mod_eq, decide_eq_true_eq]
theorem bit_n {x t : Nat} (hx : x < 2 ^ 31) (h : t < 32) : (nI x >>> (nI t &&& 31)) &&& 1 = bz (x.testBit t = true) := by
  rw [shr_n hx h, and1]
  by_cases q : x.testBit t = true
  · rw [bz_t q, (tb_div x t).mpr q]; rfl
  · rw [bz_f q]
    have : x / 2 ^ t % 2 = 0 := by
      have h1 := mt (tb_div x t).mp q
      omega
    rw [this]; rfl
