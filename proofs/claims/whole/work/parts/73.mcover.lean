/-! The model's cover(): contracts. -/
def mvR (m : mMem) (o P : Nat) (S : cvS) : Prop := iF m o 26 = nI S.1 ∧ (∀ k, k < S.1 → ∀ p, p < P → m.2.2.1 (64 * o + 11) (10 * k + p) = nI (S.2.1 k p)) ∧ (∀ k, k < S.1 → m.2.2.1 (64 * o + 12) k = oI S.2.2.1 k) ∧ (∀ k, k < S.1 → m.2.2.1 (64 * o + 13) k = oI S.2.2.2 k)
/-- the tree as it lies in the model -/
def mCov (m : mMem) (o P T : Nat) (tk : Nat → Nat → Nat) (S : cvS) : Prop := cvOk S ∧ mvR m o P S ∧ (S.1 ≤ 200 → ∀ k, k < S.1 → m.2.2.1 (64 * o + 14) k = nI (endS P T tk S.2.1 k))
theorem cvF_no {P : Nat} {tk pt : Nat → Nat → Nat} {S : cvS} {i : Nat} : ∀ t, (∀ u, u < t → ¬ enS P tk (S.2.1 i) u) → cvF P tk pt S i t = S := by
  intro t
  induction t with
  | zero => intro _; rfl
  | succ t ih =>
    intro h
    have e := ih (fun u hu => h u (by omega))
    show cvSt P tk pt (cvF P tk pt S i t) i t = S
    rw [e]
    unfold cvSt
    rw [cif_f (fun z => h t (Nat.lt_succ_self _) z.2)]
theorem cvF_201 {P : Nat} {tk pt : Nat → Nat → Nat} {S : cvS} {i t : Nat} (h : 200 < (cvF P tk pt S i t).1) : ∀ j, cvF P tk pt S i (t + j) = cvF P tk pt S i t := by
  intro j
  induction j with
  | zero => rfl
  | succ j ih =>
    show cvSt P tk pt (cvF P tk pt S i (t + j)) i (t + j) = _
    rw [ih]
    unfold cvSt
    rw [cif_f (fun z => by omega)]
section MCV
variable {d o n P T r lr : Nat} {tk pt : Nat → Nat → Nat} {fi mk : Nat → Nat} {V : aV} {S : cvS} {m : mMem} {Q : Option Value → mMem → Prop}
theorem mvR.to {A : Nat → Prop} {F : Nat → Nat → Prop} {m' : mMem} (h : mvR m o P S) (ht : mTo A F m m') (h1 : ¬ A (64 * o + 11)) (h2 : ¬ A (64 * o + 12)) (h3 : ¬ A (64 * o + 13)) (h5 : ¬ F o 26) : mvR m' o P S := by
  obtain ⟨r2, r3, r4, r5⟩ := h
  refine ⟨by rw [ht.nf h5]; exact r2, ?_, ?_, ?_⟩
  · rw [ht.i h1]; exact r3
  · rw [ht.i h2]; exact r4
  · rw [ht.i h3]; exact r5
theorem upd_id {f : Nat → Int32} {k : Nat} : upd f k (f k) = f := by
  funext j
  by_cases e : j = k
  · subst e; rw [up_s]
  · rw [up_n e]
theorem ev_growM {k N : Nat} {r : Nat → Nat} (hd : 1 ≤ d) (hT : mWT m) (hO : m.1 o = some (.inr 8) ∧ o ≠ 0) (h6 : iF m o 6 = nI P) (hP : P ≤ 10) (hN : N ≤ 200) (hk : k < N) {v : Nat → Nat} (hv : ∀ p, p < P → m.2.2.1 (64 * o + 11) (10 * k + p) = nI (v p)) (hr : ∀ p, p < P → m.2.2.1 (64 * o + 11) (10 * N + p) = nI (r p)) (hv2 : ∀ p, v p ≤ 1000000) (hr2 : ∀ p, r p ≤ 1000000)
    (hQ : ∀ m', mTo (fun k => k = 64 * o + 11) (fun _ _ => False) m m' → (∀ j, j < 10 * N → m'.2.2.1 (64 * o + 11) j = m.2.2.1 (64 * o + 11) j) → (∀ p, p < P → m'.2.2.1 (64 * o + 11) (10 * N + p) = nI (cvGr P v r p)) → Q none m') : mEv d 182 [.ref o, .int (nI k), .int (nI (10 * N))] m Q := by
  refine mEv.at (by omega) G182 (Nat.le_of_ble_eq_true rfl) ?_
  refine bk182_0 hT hO ?_
  have two : ∀ (b : Int32) (C : Prop), b = bz C → (C ↔ ¬ leP P v r) → mEs (d - 1) 182 o g182 (57, [some (.ref o), some (.int (nI k)), some (.int (nI (10 * N))), some (.int b), some (.int 0)], [], m) Q := by
    intro b C hb hC
    by_cases q : leP P v r
    · rw [bz_f (fun z => hC.mp z q)] at hb
      subst hb
      refine upto (e := P) (X := fun p => ∀ m', mTo (fun k => k = 64 * o + 11) (fun _ _ => False) m m' → (∀ j, j < 10 * N → m'.2.2.1 (64 * o + 11) j = m.2.2.1 (64 * o + 11) j) → (∀ q, q < P → m'.2.2.1 (64 * o + 11) (10 * N + q) = nI (if q < p ∧ v q < r q then 1000000 else r q)) → mEs (d - 1) 182 o g182 (57, [some (.ref o), some (.int (nI k)), some (.int (nI (10 * N))), some (.int 0), some (.int (nI p))], [], m') Q) ?_ ?_ 0 (Nat.zero_le _) m (mTo.rf hT) (fun _ _ => rfl) (fun q hq => by rw [if_neg (by omega)]; exact hr q hq)
      · intro m' T' y1 y2
        refine bk182_57 T'.wt (T'.ob hO) ?_
        rw [T'.nf id, h6]
        simp (disch := omega) only [forall_eq, l2, l3, l4, l9, l10, l11, l12, l20, l30, l80, l90, l99, l100, l110, l200, l240, l252, l300, l1024, l1M, nI_mul, nIle, nI_ltI, nIeq, nIx10, n10x, nI_add, nI_clamp, nIin_iff, nIinc, nIlt0, nIeq0, nIle0, nIle1, n1lt, n0lt, nIeq1, bz_0, Classical.not_not]
        refine ⟨fun _ => hQ m' T' y1 (fun p hp => ?_), fun c => absurd (Nat.le_refl _) c⟩
        unfold cvGr
        rw [cif_t q]
        exact y2 p hp
      · intro p hp ih m' T' y1 y2
        have a1 := hv2 p
        have a2 := hr2 p
        have e1 : m'.2.2.1 (64 * o + 11) (10 * k + p) = nI (v p) := by rw [y1 _ (by omega)]; exact hv p hp
        have e2 : m'.2.2.1 (64 * o + 11) (10 * N + p) = nI (r p) := by rw [y2 p hp, if_neg (by omega)]
        refine bk182_57 T'.wt (T'.ob hO) ?_
        rw [T'.nf id, h6]
        simp (disch := omega) only [forall_eq, l2, l3, l4, l9, l10, l11, l12, l20, l30, l80, l90, l99, l100, l110, l200, l240, l252, l300, l1024, l1M, nI_mul, nIle, nI_ltI, nIeq, nIx10, n10x, nI_add, nI_clamp, nIin_iff, nIinc, nIlt0, nIeq0, nIle0, nIle1, n1lt, n0lt, nIeq1, bz_0, Classical.not_not, e1, e2]
        refine ⟨fun c => by omega, fun _ => ⟨fun c => absurd trivial c, fun _ => ⟨by omega, by omega, fun c2 => ⟨by omega, by omega, ?_⟩, fun c2 => ⟨by omega, ?_⟩⟩⟩⟩
        · refine ih _ (T'.sI rfl) (fun j hj => ?_) (fun q hq => ?_)
          · rw [rdI_same, up_n (by omega)]; exact y1 j hj
          · rw [rdI_same]
            by_cases e : q = p
            · subst e; rw [up_s, if_neg (by omega)]
            · rw [up_n (by omega), y2 q hq]
              by_cases e3 : v q < r q
              · by_cases e4 : q < p
                · rw [if_pos ⟨e4, e3⟩, if_pos ⟨by omega, e3⟩]
                · rw [if_neg (fun z => e4 z.1), if_neg (by omega)]
              · rw [if_neg (fun z => e3 z.2), if_neg (fun z => e3 z.2)]
        · refine ih _ (T'.sI rfl) (fun j hj => ?_) (fun q hq => ?_)
          · rw [rdI_same, up_n (by omega)]; exact y1 j hj
          · rw [rdI_same]
            by_cases e : q = p
            · subst e; rw [up_s, if_pos ⟨by omega, by omega⟩]
            · rw [up_n (by omega), y2 q hq]
              by_cases e3 : v q < r q
              · by_cases e4 : q < p
                · rw [if_pos ⟨e4, e3⟩, if_pos ⟨by omega, e3⟩]
                · rw [if_neg (fun z => e4 z.1), if_neg (by omega)]
              · rw [if_neg (fun z => e3 z.2), if_neg (fun z => e3 z.2)]
    · rw [bz_t (hC.mpr q)] at hb
      subst hb
      have hq : Q none m := hQ m (mTo.rf hT) (fun _ _ => rfl) (fun p hp => by unfold cvGr; rw [cif_f q]; exact hr p hp)
      refine bk182_57 hT hO ⟨fun _ => hq, fun c => ⟨fun _ => hq, fun c => absurd (by decide) c⟩⟩
  refine upto (e := P) (X := fun p => ∀ b : Int32, b = bz (¬ ∀ q, q < p → v q ≤ r q) → mEs (d - 1) 182 o g182 (5, [some (.ref o), some (.int (nI k)), some (.int (nI (10 * N))), some (.int b), some (.int (nI p))], [], m) Q) ?_ ?_ 0 (Nat.zero_le _) _ (bz_f (fun z => z (fun q hq => absurd hq (Nat.not_lt_zero _)))).symm
  · intro b hb
    refine bk182_5 hT hO ?_
    rw [h6]
    simp (disch := omega) only [forall_eq, l2, l3, l4, l9, l10, l11, l12, l20, l30, l80, l90, l99, l100, l110, l200, l240, l252, l300, l1024, l1M, nI_mul, nIle, nI_ltI, nIeq, nIx10, n10x, nI_add, nI_clamp, nIin_iff, nIinc, nIlt0, nIeq0, nIle0, nIle1, n1lt, n0lt, nIeq1, bz_0, Classical.not_not]
    exact ⟨fun _ => two b _ hb Iff.rfl, fun c => absurd (Nat.le_refl _) c⟩
  · intro p hp ih b hb
    have a1 := hv2 p
    have a2 := hr2 p
    refine bk182_5 hT hO ?_
    rw [h6]
    simp (disch := omega) only [forall_eq, l2, l3, l4, l9, l10, l11, l12, l20, l30, l80, l90, l99, l100, l110, l200, l240, l252, l300, l1024, l1M, nI_mul, nIle, nI_ltI, nIeq, nIx10, n10x, nI_add, nI_clamp, nIin_iff, nIinc, nIlt0, nIeq0, nIle0, nIle1, n1lt, n0lt, nIeq1, bz_0, Classical.not_not, hv p hp, hr p hp]
    refine ⟨fun c => by omega, fun _ => ⟨fun c => ih 1 ?_, fun c => ⟨by omega, by omega, fun c2 => ih 0 ?_, fun c2 => ih 1 ?_⟩⟩⟩
    · rw [hb, bz_n0] at c
      exact (bz_t (fun z => c (fun q hq => z q (by omega)))).symm
    · rw [hb, bz_0, Classical.not_not] at c
      refine (bz_f (fun z => z (fun q hq => ?_))).symm
      by_cases e : q = p
      · subst e; exact c2
      · exact c q (by omega)
    · exact (bz_t (fun z => c2 (z p (Nat.lt_succ_self _)))).symm
theorem ev_canCov {i : Nat} (hd : 3 ≤ d) (hT : mWT m) (hO : m.1 o = some (.inr 8) ∧ o ≠ 0) (hN : mNet m o P T tk pt) (hk : okNet P T tk pt fi) (hR : mvR m o P S) (hok : cvOk S) (hi : i < S.1) (hQ : Q (some (.int (nI (bs (enS P tk (S.2.1 i)) T)))) m) : mEv d 183 [.ref o, .int (nI i)] m Q := by
  obtain ⟨r2, r3, r4, r5⟩ := id hR
  obtain ⟨n1, n2, n3, n4⟩ := id hN
  have hb : ∀ p, S.2.1 i p ≤ 1000000 := fun p => by have := hok.2.2.2.1 i p hi; have := hok.2.1; omega
  have hk2 := hk.2.1
  have h201 := hok.2.1
  refine mEv.at (by omega) G183 (Nat.le_of_ble_eq_true rfl) ?_
  refine bk183_0 hT hO ?_
  refine upto (e := T) (X := fun t => mEs (d - 1) 183 _ g183 (4, [some (.ref o), some (.int (nI i)), some (.int (nI (bs (enS P tk (S.2.1 i)) t))), some (.int (nI t))], [], m) Q) ?_ ?_ 0 (Nat.zero_le _)
  · refine bk183_4 hT hO ?_
    simp (disch := omega) only [forall_eq, l2, l3, l4, l9, l10, l11, l12, l20, l30, l80, l90, l99, l100, l110, l200, l240, l252, l300, l1024, l1M, nI_mul, nIle, nI_ltI, nIeq, nIx10, n10x, nI_add, nI_clamp, nIin_iff, nIinc, nIlt0, nIeq0, nIle0, nIle1, n1lt, n0lt, nIeq1, bz_0, Classical.not_not, n2]
    exact ⟨fun _ => hQ, fun c => absurd (Nat.le_refl _) c⟩
  · intro t ht ih
    refine bk183_4 hT hO ?_
    simp (disch := omega) only [forall_eq, l2, l3, l4, l9, l10, l11, l12, l20, l30, l80, l90, l99, l100, l110, l200, l240, l252, l300, l1024, l1M, nI_mul, nIle, nI_ltI, nIeq, nIx10, n10x, nI_add, nI_clamp, nIin_iff, nIinc, nIlt0, nIeq0, nIle0, nIle1, n1lt, n0lt, nIeq1, bz_0, Classical.not_not, n2]
    refine ⟨fun c => by omega, fun _ => ?_⟩
    refine ev_canM (v := S.2.1 i) (most := 1000000) (by omega) hT hO hN hk (hT.arr hO 10 rfl (by decide)) (by omega) (by decide) (r3 i hi) hb (Nat.le_refl _) (by omega) ?_
    have e : canS P tk pt (S.2.1 i) 1000000 t ↔ enS P tk (S.2.1 i) t := by
      constructor
      · intro h p hp; exact (h p hp).1
      · intro h p hp
        have := hok.2.2.2.1 i p hi
        have := hk.2.2.2.1 t p
        exact ⟨h p hp, by omega⟩
    rw [bz_cg e]
    refine bk183_28 hT hO ?_
    simp (disch := omega) only [bz_0, forall_eq, nIinc, shl1, or_n, Int32.or_zero]
    refine ⟨fun c => ?_, fun c => ?_⟩
    · rw [bs_sf c] at ih; exact ih
    · rw [bs_st (Classical.not_not.mp c)] at ih; exact ih
theorem ev_oldM {i : Nat} (hd : 1 ≤ d) (hT : mWT m) (hO : m.1 o = some (.inr 8) ∧ o ≠ 0) (h6 : iF m o 6 = nI P) (hP : P ≤ 10) (hR : mvR m o P S) (hok : cvOk S) (hi : i < S.1) (hQ : Q (some (.int (bz (oldS P S.2.1 i)))) m) : mEv d 184 [.ref o, .int (nI i)] m Q := by
  obtain ⟨r2, r3, r4, r5⟩ := id hR
  have hb : ∀ k, k < S.1 → ∀ p, S.2.1 k p ≤ 1000000 := fun k hk p => by have := hok.2.2.2.1 k p hk; have := hok.2.1; omega
  have h201 := hok.2.1
  refine mEv.at (by omega) G184 (Nat.le_of_ble_eq_true rfl) ?_
  refine bk184_0 hT hO ?_
  have fin : ∀ b : Int32, b = bz (oldS P S.2.1 i) → (b = 0 ∨ b = 1) ∧ Q (some (.int b)) m := by
    intro b hb
    rw [hb]; exact ⟨bz_01 _, hQ⟩
  refine upto (e := i) (X := fun j => ∀ (b : Int32) (o4 : Option Value), b = bz (∃ k, k < j ∧ ∀ p, p < P → S.2.1 i p = S.2.1 k p) → mEs (d - 1) 184 o g184 (4, [some (.ref o), some (.int (nI i)), some (.int b), some (.int (nI j)), o4], [], m) Q) ?_ ?_ 0 (Nat.zero_le _) _ _ (bz_f (fun ⟨k, h, _⟩ => absurd h (Nat.not_lt_zero _))).symm
  · intro b o4 hb
    refine bk184_4 hT hO ?_
    simp (disch := omega) only [forall_eq, l2, l3, l4, l9, l10, l11, l12, l20, l30, l80, l90, l99, l100, l110, l200, l240, l252, l300, l1024, l1M, nI_mul, nIle, nI_ltI, nIeq, nIx10, n10x, nI_add, nI_clamp, nIin_iff, nIinc, nIlt0, nIeq0, nIle0, nIle1, n1lt, n0lt, nIeq1, bz_0, Classical.not_not]
    exact ⟨fun _ => fin b hb, fun c => absurd (Nat.le_refl _) c⟩
  · intro j hj ih b o4 hb'
    refine bk184_4 hT hO ?_
    simp (disch := omega) only [forall_eq, l2, l3, l4, l9, l10, l11, l12, l20, l30, l80, l90, l99, l100, l110, l200, l240, l252, l300, l1024, l1M, nI_mul, nIle, nI_ltI, nIeq, nIx10, n10x, nI_add, nI_clamp, nIin_iff, nIinc, nIlt0, nIeq0, nIle0, nIle1, n1lt, n0lt, nIeq1, bz_0, Classical.not_not]
    refine ⟨fun c => by omega, fun _ => ⟨fun c => ?_, fun c => ?_⟩⟩
    · refine fin b ?_
      rw [hb', bz_n0] at c
      obtain ⟨k, h1, h2⟩ := c
      rw [hb', bz_t ⟨k, h1, h2⟩, bz_t ⟨k, by omega, h2⟩]
    · rw [hb', bz_0] at c
      refine upto (e := P) (X := fun p => ∀ (b : Int32), b = bz (∀ q, q < p → S.2.1 i q = S.2.1 j q) → mEs (d - 1) 184 o g184 (18, [some (.ref o), some (.int (nI i)), some (.int b), some (.int (nI j)), some (.int (nI p))], [], m) Q) ?_ ?_ 0 (Nat.zero_le _) _ (bz_t (fun q hq => absurd hq (Nat.not_lt_zero _))).symm
      · intro b hb2
        refine bk184_18 hT hO ?_
        rw [h6]
        simp (disch := omega) only [forall_eq, l2, l3, l4, l9, l10, l11, l12, l20, l30, l80, l90, l99, l100, l110, l200, l240, l252, l300, l1024, l1M, nI_mul, nIle, nI_ltI, nIeq, nIx10, n10x, nI_add, nI_clamp, nIin_iff, nIinc, nIlt0, nIeq0, nIle0, nIle1, n1lt, n0lt, nIeq1, bz_0, Classical.not_not]
        refine ⟨fun _ => ih _ _ ?_, fun c => absurd (Nat.le_refl _) c⟩
        rw [hb2]
        refine bz_cg ⟨fun z => ⟨j, Nat.lt_succ_self _, z⟩, fun ⟨k, h1, h2⟩ => ?_⟩
        by_cases e : k = j
        · subst e; exact h2
        · exact absurd ⟨k, by omega, h2⟩ c
      · intro p hp ih2 b hb2
        have a1 := hb i hi p
        have a2 := hb j (by omega) p
        refine bk184_18 hT hO ?_
        rw [h6]
        simp (disch := omega) only [forall_eq, l2, l3, l4, l9, l10, l11, l12, l20, l30, l80, l90, l99, l100, l110, l200, l240, l252, l300, l1024, l1M, nI_mul, nIle, nI_ltI, nIeq, nIx10, n10x, nI_add, nI_clamp, nIin_iff, nIinc, nIlt0, nIeq0, nIle0, nIle1, n1lt, n0lt, nIeq1, bz_0, Classical.not_not, r3 i hi p hp, r3 j (by omega) p hp]
        refine ⟨fun c => by omega, fun _ => ⟨fun c => ih2 0 ?_, fun c => ⟨by omega, by omega, fun c2 => ih2 0 ?_, fun c2 => ih2 1 ?_⟩⟩⟩
        · rw [hb2, bz_0] at c
          exact (bz_f (fun z => c (fun q hq => z q (by omega)))).symm
        · exact (bz_f (fun z => c2 (z p (Nat.lt_succ_self _)).symm)).symm
        · rw [hb2, bz_n0] at c
          refine (bz_t (fun q hq => ?_)).symm
          by_cases e : q = p
          · subst e; exact c2.symm
          · exact c q (by omega)
def mvA (o k : Nat) : Prop := k = 64 * o + 11 ∨ k = 64 * o + 12 ∨ k = 64 * o + 13
def mvF (o k f : Nat) : Prop := k = o ∧ f = 26
theorem ev_layFirst (hd : 1 ≤ d) (hT : mWT m) (hO : m.1 o = some (.inr 8) ∧ o ≠ 0) (h26 : iF m o 26 = 0) (hv : ∀ p, p < 10 → m.2.2.1 (64 * o + 4) p = nI (mk p)) (hP : P ≤ 10)
    (hQ : ∀ m', mTo (mvA o) (mvF o) m m' → mvR m' o P (cvB P T tk pt mk 0) → Q none m') : mEv d 181 [.ref o, .int (-1), .int (-1)] m Q := by
  refine mEv.at (by omega) G181 (Nat.le_of_ble_eq_true rfl) ?_
  refine bk181_0 hT hO ?_
  rw [h26]
  rintro v1 rfl
  refine upto (e := 10) (X := fun p => ∀ (o5 : Option Value) (m' : mMem), mTo (fun k => k = 64 * o + 11) (fun _ _ => False) m m' → (∀ q, q < p → m'.2.2.1 (64 * o + 11) q = nI (mk q)) → mEs (d - 1) 181 o g181 (11, [some (.ref o), some (.int (-1)), some (.int (-1)), some (.int (10 * 0)), some (.int (nI p)), o5], [], m') Q) ?_ ?_ 0 (Nat.zero_le _) _ m (mTo.rf hT) (fun q hq => absurd hq (Nat.not_lt_zero _))
  · intro o5 m' T' yr
    have z26 : iF m' o 26 = 0 := by rw [T'.nf id]; exact h26
    refine bk181_11 T'.wt (T'.ob hO) ⟨fun _ => ?_, fun c => absurd (by decide) c⟩
    simp (disch := omega) only [forall_eq, l2, l3, l4, l9, l10, l11, l12, l20, l30, l80, l90, l99, l100, l110, l200, l240, l252, l300, l1024, l1M, nI_mul, nIle, nI_ltI, nIeq, nIx10, n10x, nI_add, nI_clamp, nIin_iff, nIinc, nIlt0, nIeq0, nIle0, nIle1, n1lt, n0lt, nIeq1, bz_0, Classical.not_not, rdI_same, rdI_ne, rI_F, rI_J, rJ_F, rJ_I, rdJ_same, rdJ_ne, iF_s, iF_nf, iF_nk, iF_I, iF_J, up_s, up_n, z26, c0c]
    refine ⟨by decide, by decide, ?_⟩
    have T3 := ((T'.mono (A' := mvA o) (F' := mvF o) (fun k h => Or.inl h) (fun _ _ h => h.elim)).sI (k := 64 * o + 12) (g := upd (m'.2.2.1 (64 * o + 12)) 0 (-1)) (Or.inr (Or.inl rfl))).sI (k := 64 * o + 13) (g := upd (m'.2.2.1 (64 * o + 13)) 0 (-1)) (Or.inr (Or.inr rfl))
    refine bk181_120 T3.wt (T3.ob hO) ⟨fun _ => ?_, fun c => absurd rfl c⟩
    rintro m2 rfl
    simp (disch := omega) only [forall_eq, l2, l3, l4, l9, l10, l11, l12, l20, l30, l80, l90, l99, l100, l110, l200, l240, l252, l300, l1024, l1M, nI_mul, nIle, nI_ltI, nIeq, nIx10, n10x, nI_add, nI_clamp, nIin_iff, nIinc, nIlt0, nIeq0, nIle0, nIle1, n1lt, n0lt, nIeq1, bz_0, Classical.not_not, rdI_same, rdI_ne, rI_F, rI_J, rJ_F, rJ_I, rdJ_same, rdJ_ne, iF_s, iF_nf, iF_nk, iF_I, iF_J, up_s, up_n, z26]
    refine hQ _ (T3.sF hO ⟨rfl, rfl⟩ (by decide)) ⟨?_, ?_, ?_, ?_⟩
    · rw [iF_s]; rfl
    · intro k hk' p hp
      have hk2 : k < 1 := hk'
      obtain rfl : k = 0 := by omega
      simp (disch := omega) only [forall_eq, l2, l3, l4, l9, l10, l11, l12, l20, l30, l80, l90, l99, l100, l110, l200, l240, l252, l300, l1024, l1M, nI_mul, nIle, nI_ltI, nIeq, nIx10, n10x, nI_add, nI_clamp, nIin_iff, nIinc, nIlt0, nIeq0, nIle0, nIle1, n1lt, n0lt, nIeq1, bz_0, Classical.not_not, rdI_same, rdI_ne, rI_F, rI_J, rJ_F, rJ_I, rdJ_same, rdJ_ne, iF_s, iF_nf, iF_nk, iF_I, iF_J, up_s, up_n]
      rw [show 10 * 0 + p = p by omega]
      exact yr p (by omega)
    · intro k hk'
      have hk2 : k < 1 := hk'
      obtain rfl : k = 0 := by omega
      simp (disch := omega) only [forall_eq, l2, l3, l4, l9, l10, l11, l12, l20, l30, l80, l90, l99, l100, l110, l200, l240, l252, l300, l1024, l1M, nI_mul, nIle, nI_ltI, nIeq, nIx10, n10x, nI_add, nI_clamp, nIin_iff, nIinc, nIlt0, nIeq0, nIle0, nIle1, n1lt, n0lt, nIeq1, bz_0, Classical.not_not, rdI_same, rdI_ne, rI_F, rI_J, rJ_F, rJ_I, rdJ_same, rdJ_ne, iF_s, iF_nf, iF_nk, iF_I, iF_J, up_s, up_n]
      rfl
    · intro k hk'
      have hk2 : k < 1 := hk'
      obtain rfl : k = 0 := by omega
      simp (disch := omega) only [forall_eq, l2, l3, l4, l9, l10, l11, l12, l20, l30, l80, l90, l99, l100, l110, l200, l240, l252, l300, l1024, l1M, nI_mul, nIle, nI_ltI, nIeq, nIx10, n10x, nI_add, nI_clamp, nIin_iff, nIinc, nIlt0, nIeq0, nIle0, nIle1, n1lt, n0lt, nIeq1, bz_0, Classical.not_not, rdI_same, rdI_ne, rI_F, rI_J, rJ_F, rJ_I, rdJ_same, rdJ_ne, iF_s, iF_nf, iF_nk, iF_I, iF_J, up_s, up_n]
      rfl
  · intro p hp ih o5 m' T' yr
    have ev : m'.2.2.1 (64 * o + 4) p = nI (mk p) := by rw [T'.i (by omega)]; exact hv p hp
    refine bk181_11 T'.wt (T'.ob hO) ⟨fun c => absurd ((nIle (a := 10) (by omega) (by omega)).mp c) (by omega), fun _ => ⟨fun c => absurd rfl c, fun _ => ?_⟩⟩
    rw [show (10 : Int32) * 0 + nI p = nI p by rw [show (10 : Int32) * 0 = nI 0 from rfl, nI_add, Nat.zero_add]]
    rw [nI_clamp (by omega), ev, nIin_iff (by omega), nIin_iff (by omega), nIinc]
    refine ⟨hp, ?_⟩
    rintro v5 rfl
    refine ⟨fun _ => ⟨by omega, ?_⟩, fun c => absurd rfl c⟩
    rintro m2 rfl v8 rfl
    refine ih _ _ (T'.sI rfl) (fun q hq => ?_)
    rw [rdI_same]
    by_cases e : q = p
    · subst e; rw [up_s]
    · rw [up_n e]; exact yr q (by omega)
theorem ev_layNode {i t : Nat} (hd : 2 ≤ d) (hT : mWT m) (hO : m.1 o = some (.inr 8) ∧ o ≠ 0) (hN : mNet m o P T tk pt) (hk : okNet P T tk pt fi) (hR : mvR m o P S) (hok : cvOk S) (hi : i < S.1) (h200 : S.1 ≤ 200) (ht : t < 10) (hen : enS P tk (S.2.1 i) t)
    (hQ : ∀ m', mTo (mvA o) (mvF o) m m' → mvR m' o P (cvAdd P tk pt S i t) → Q none m') : mEv d 181 [.ref o, .int (nI i), .int (nI t)] m Q := by
  obtain ⟨r2, r3, r4, r5⟩ := id hR
  obtain ⟨o1, o2, o3, o4, o5⟩ := id hok
  have hP10 := hk.1
  have hb : ∀ k, k < S.1 → ∀ p, S.2.1 k p ≤ 1000000 := fun k hk p => by have := o4 k p hk; omega
  refine mEv.at (by omega) G181 (Nat.le_of_ble_eq_true rfl) ?_
  refine bk181_0 hT hO ?_
  rw [r2, n10x]
  rintro v1 rfl
  have back : ∀ f k (o5 : Option Value) (r : Nat → Nat) (m' : mMem), k < f → k < S.1 → (∀ p, r p ≤ 1000000) → mTo (mvA o) (mvF o) m m' → iF m' o 26 = nI S.1 → (∀ j, j < 10 * S.1 → m'.2.2.1 (64 * o + 11) j = m.2.2.1 (64 * o + 11) j) → (∀ k, k < S.1 + 1 → m'.2.2.1 (64 * o + 12) k = oI (updN S.2.2.1 S.1 i) k) → (∀ k, k < S.1 + 1 → m'.2.2.1 (64 * o + 13) k = oI (updN S.2.2.2 S.1 t) k) → (∀ p, p < P → m'.2.2.1 (64 * o + 11) (10 * S.1 + p) = nI (r p)) → (∀ p, p < P → cvUp P S.2.1 S.2.2.1 f k r p = cvUp P S.2.1 S.2.2.1 (i + 1) i (cvRow tk pt (S.2.1 i) t) p) → mEs (d - 1) 181 o g181 (120, [some (.ref o), some (.int (nI i)), some (.int (nI t)), some (.int (nI (10 * S.1))), some (.int (nI k)), o5], [], m') Q := by
    intro f
    induction f with
    | zero => intro k o5 r m' h; omega
    | succ f ih =>
      intro k o5 r m' hkf hkS hr T' y1 yA y2 y3 yr eU
      have hva : ∀ p, p < P → m'.2.2.1 (64 * o + 11) (10 * k + p) = nI (S.2.1 k p) := fun p hp => by rw [yA _ (by omega)]; exact r3 k hkS p hp
      have z6 : iF m' o 6 = nI P := by rw [T'.nf (by unfold mvF; omega)]; exact hN.1
      have hgb : ∀ p, cvGr P (S.2.1 k) r p ≤ 1000000 := fun p => by have := cvGr_b (P := P) (a := S.2.1 k) (r := r) (M := 1000000) (fun p => Or.inr (hr p)) p; omega
      refine bk181_120 T'.wt (T'.ob hO) ⟨fun cc => absurd cc (neg1_ne (by omega)), fun _ => ?_⟩
      refine ev_growM (v := S.2.1 k) (r := r) (by omega) T'.wt (T'.ob hO) z6 hP10 h200 hkS hva yr (hb k hkS) hr ?_
      intro m2 t2 w1 w2
      have T2 := T'.tr (t2.mono (A' := mvA o) (F' := mvF o) (fun k h => Or.inl h) (fun _ _ h => h.elim))
      have x1 : iF m2 o 26 = nI S.1 := by rw [t2.nf id]; exact y1
      have x2 : ∀ k, k < S.1 + 1 → m2.2.2.1 (64 * o + 12) k = oI (updN S.2.2.1 S.1 i) k := by rw [t2.i (by omega)]; exact y2
      have x3 : ∀ k, k < S.1 + 1 → m2.2.2.1 (64 * o + 13) k = oI (updN S.2.2.2 S.1 t) k := by rw [t2.i (by omega)]; exact y3
      have xA : ∀ j, j < 10 * S.1 → m2.2.2.1 (64 * o + 11) j = m.2.2.1 (64 * o + 11) j := fun j hj => by rw [w1 j hj]; exact yA j hj
      have e2 : m2.2.2.1 (64 * o + 12) k = oI S.2.2.1 k := by rw [x2 k (by omega), oI_up (by omega)]
      refine bk181_133 T2.wt (T2.ob hO) ?_
      simp (disch := omega) only [forall_eq, l2, l3, l4, l9, l10, l11, l12, l20, l30, l80, l90, l99, l100, l110, l200, l240, l252, l300, l1024, l1M, nI_mul, nIle, nI_ltI, nIeq, nIx10, n10x, nI_add, nI_clamp, nIin_iff, nIinc, nIlt0, nIeq0, nIle0, nIle1, n1lt, n0lt, nIeq1, bz_0, Classical.not_not, e2]
      refine ⟨by omega, ?_⟩
      by_cases ek : k = 0
      · subst ek
        rw [oI_0]
        refine bk181_120 T2.wt (T2.ob hO) ⟨fun _ => ?_, fun cc => absurd rfl cc⟩
        rintro m3 rfl
        rw [x1, nIinc]
        refine hQ _ (T2.sF hO ⟨rfl, rfl⟩ (by decide)) ⟨iF_s, ?_, x2, x3⟩
        intro k hk' p hp
        have hk2 : k < S.1 + 1 := hk'
        show m2.2.2.1 (64 * o + 11) (10 * k + p) = nI ((if k = S.1 then cvUp P S.2.1 S.2.2.1 (i + 1) i (cvRow tk pt (S.2.1 i) t) else S.2.1 k) p)
        by_cases e : k = S.1
        · subst e
          rw [if_pos rfl, w2 p hp, ← eU p hp]
          rfl
        · rw [if_neg e, xA _ (by omega)]; exact r3 k (by omega) p hp
      · rw [oI_n ek]
        have hog := o3 k (by omega) hkS
        refine ih (S.2.2.1 k) _ (cvGr P (S.2.1 k) r) m2 (by omega) (by omega) hgb T2 x1 xA x2 x3 w2 (fun p hp => ?_)
        rw [← eU p hp]
        show _ = (if k = 0 then cvGr P (S.2.1 0) r else cvUp P S.2.1 S.2.2.1 f (S.2.2.1 k) (cvGr P (S.2.1 k) r)) p
        rw [if_neg ek]
  refine upto (e := 10) (X := fun p => ∀ (o5 : Option Value) (m' : mMem), mTo (fun k => k = 64 * o + 11) (fun _ _ => False) m m' → (∀ j, j < 10 * S.1 → m'.2.2.1 (64 * o + 11) j = m.2.2.1 (64 * o + 11) j) → (∀ q, q < p → q < P → m'.2.2.1 (64 * o + 11) (10 * S.1 + q) = nI (cvRow tk pt (S.2.1 i) t q)) → mEs (d - 1) 181 o g181 (11, [some (.ref o), some (.int (nI i)), some (.int (nI t)), some (.int (nI (10 * S.1))), some (.int (nI p)), o5], [], m') Q) ?_ ?_ 0 (Nat.zero_le _) _ m (mTo.rf hT) (fun _ _ => rfl) (fun q hq => absurd hq (Nat.not_lt_zero _))
  · intro o5' m' T' yA yr
    have z1 : iF m' o 26 = nI S.1 := by rw [T'.nf id]; exact r2
    refine bk181_11 T'.wt (T'.ob hO) ⟨fun _ => ?_, fun c => absurd (by decide) c⟩
    simp (disch := omega) only [forall_eq, l2, l3, l4, l9, l10, l11, l12, l20, l30, l80, l90, l99, l100, l110, l200, l240, l252, l300, l1024, l1M, nI_mul, nIle, nI_ltI, nIeq, nIx10, n10x, nI_add, nI_clamp, nIin_iff, nIinc, nIlt0, nIeq0, nIle0, nIle1, n1lt, n0lt, nIeq1, bz_0, Classical.not_not, rdI_same, rdI_ne, rI_F, rI_J, rJ_F, rJ_I, rdJ_same, rdJ_ne, iF_s, iF_nf, iF_nk, iF_I, iF_J, up_s, up_n, z1]
    refine ⟨by omega, by omega, ?_⟩
    have hrb : ∀ p, cvRow tk pt (S.2.1 i) t p ≤ 1000000 := fun p => by have := cvRow_b (t := t) hk (fun p => o4 i p hi) p; omega
    refine back (i + 1) i _ (cvRow tk pt (S.2.1 i) t) _ (Nat.lt_succ_self _) hi hrb (((T'.mono (A' := mvA o) (F' := mvF o) (fun k h => Or.inl h) (fun _ _ h => h.elim)).sI (Or.inr (Or.inl rfl))).sI (Or.inr (Or.inr rfl))) z1 ?_ ?_ ?_ ?_ (fun _ _ => rfl)
    · intro j hj; simp (disch := omega) only [forall_eq, l2, l3, l4, l9, l10, l11, l12, l20, l30, l80, l90, l99, l100, l110, l200, l240, l252, l300, l1024, l1M, nI_mul, nIle, nI_ltI, nIeq, nIx10, n10x, nI_add, nI_clamp, nIin_iff, nIinc, nIlt0, nIeq0, nIle0, nIle1, n1lt, n0lt, nIeq1, bz_0, Classical.not_not, rdI_same, rdI_ne, rI_F, rI_J, rJ_F, rJ_I, rdJ_same, rdJ_ne, iF_s, iF_nf, iF_nk, iF_I, iF_J, up_s, up_n]; exact yA j hj
    · intro k hk'
      simp (disch := omega) only [forall_eq, l2, l3, l4, l9, l10, l11, l12, l20, l30, l80, l90, l99, l100, l110, l200, l240, l252, l300, l1024, l1M, nI_mul, nIle, nI_ltI, nIeq, nIx10, n10x, nI_add, nI_clamp, nIin_iff, nIinc, nIlt0, nIeq0, nIle0, nIle1, n1lt, n0lt, nIeq1, bz_0, Classical.not_not, rdI_same, rdI_ne, rI_F, rI_J, rJ_F, rJ_I, rdJ_same, rdJ_ne, iF_s, iF_nf, iF_nk, iF_I, iF_J, up_s, up_n]
      by_cases e : k = S.1
      · subst e; rw [up_s, oI_n (by omega), updN_s]
      · rw [up_n e, oI_up e, T'.i (by omega)]; exact r4 k (by omega)
    · intro k hk'
      simp (disch := omega) only [forall_eq, l2, l3, l4, l9, l10, l11, l12, l20, l30, l80, l90, l99, l100, l110, l200, l240, l252, l300, l1024, l1M, nI_mul, nIle, nI_ltI, nIeq, nIx10, n10x, nI_add, nI_clamp, nIin_iff, nIinc, nIlt0, nIeq0, nIle0, nIle1, n1lt, n0lt, nIeq1, bz_0, Classical.not_not, rdI_same, rdI_ne, rI_F, rI_J, rJ_F, rJ_I, rdJ_same, rdJ_ne, iF_s, iF_nf, iF_nk, iF_I, iF_J, up_s, up_n]
      by_cases e : k = S.1
      · subst e; rw [up_s, oI_n (by omega), updN_s]
      · rw [up_n e, oI_up e, T'.i (by omega)]; exact r5 k (by omega)
    · intro p hp; simp (disch := omega) only [forall_eq, l2, l3, l4, l9, l10, l11, l12, l20, l30, l80, l90, l99, l100, l110, l200, l240, l252, l300, l1024, l1M, nI_mul, nIle, nI_ltI, nIeq, nIx10, n10x, nI_add, nI_clamp, nIin_iff, nIinc, nIlt0, nIeq0, nIle0, nIle1, n1lt, n0lt, nIeq1, bz_0, Classical.not_not, rdI_same, rdI_ne, rI_F, rI_J, rJ_F, rJ_I, rdJ_same, rdJ_ne, iF_s, iF_nf, iF_nk, iF_I, iF_J, up_s, up_n]; exact yr p (by omega) hp
  · intro p hp ih o5' m' T' yA yr
    have gN := hN.to T' (by omega) (by omega) id id
    have step : ∀ (v : Int32), (p < P → v = nI (cvRow tk pt (S.2.1 i) t p)) → ∀ (o5 : Option Value), mEs (d - 1) 181 o g181 (11, [some (.ref o), some (.int (nI i)), some (.int (nI t)), some (.int (nI (10 * S.1))), some (.int (nI (p + 1))), o5], [], mSetI m' (64 * o + 11) (upd (m'.2.2.1 (64 * o + 11)) (10 * S.1 + p) v)) Q := by
      intro v hv o5'
      refine ih _ _ (T'.sI rfl) (fun j hj => ?_) (fun q hq hq2 => ?_)
      · rw [rdI_same, up_n (by omega)]; exact yA j hj
      · rw [rdI_same]
        by_cases e : q = p
        · subst e; rw [up_s, hv hq2]
        · rw [up_n (by omega)]; exact yr q (by omega) hq2
    have a2 := hk.2.2.1 t p
    have a3 := hk.2.2.2.1 t p
    refine bk181_11 T'.wt (T'.ob hO) ⟨fun c => absurd ((nIle (a := 10) (by omega) (by omega)).mp c) (by omega), fun _ => ⟨fun _ => ?_, fun c => absurd (neg1_ne (by omega)) c⟩⟩
    rw [n10x, nI_add, nI_add, nI_clamp (by omega), nI_clamp (by omega), nIin_iff (by omega), nIin_iff (by omega), nIinc]
    refine ⟨by omega, ?_⟩
    rintro v5 rfl
    refine ⟨fun c => absurd c (neg1_ne (by omega)), fun _ => ⟨fun c2 => ?_, fun c2 => ⟨by omega, ?_⟩⟩⟩
    · refine ev_tkM (by omega) T'.wt (T'.ob hO) gN ht (by omega) ?_
      refine bk181_81 T'.wt (T'.ob hO) (ly0 := 2010) (T'.wt.arr (T'.ob hO) 10 rfl (by decide)) ?_
      refine ev_ptM (by omega) T'.wt (T'.ob hO) gN ht (by omega) ?_
      refine bk181_89 T'.wt (T'.ob hO) (ly0 := 2010) (T'.wt.arr (T'.ob hO) 10 rfl (by decide)) ?_
      rw [nI_clamp (by omega), nIin_iff (by omega), nIinc]
      refine ⟨by omega, ?_⟩
      rintro m2 rfl v3 rfl
      refine step _ (fun hpP => ?_) _
      have ei : m'.2.2.1 (64 * o + 11) (10 * i + p) = nI (S.2.1 i p) := by rw [yA _ (by omega)]; exact r3 i hi p hpP
      have a1 := o4 i p hi
      rw [ei] at c2 ⊢
      rw [l1M, nIeq (by omega) (by omega)] at c2
      rw [pk_sub (hen p hpP), nI_add]
      unfold cvRow
      rw [if_neg c2]
    · rintro m2 rfl v3 rfl
      refine step _ (fun hpP => ?_) _
      have ei : m'.2.2.1 (64 * o + 11) (10 * i + p) = nI (S.2.1 i p) := by rw [yA _ (by omega)]; exact r3 i hi p hpP
      have a1 := o4 i p hi
      rw [ei] at c2 ⊢
      rw [Classical.not_not, l1M, nIeq (by omega) (by omega)] at c2
      unfold cvRow
      rw [if_pos c2, c2]
end MCV
