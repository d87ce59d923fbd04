/-! The class: tokens, firing, undoing. -/
noncomputable def cif {α : Type} (C : Prop) (a b : α) : α := @ite _ C (Classical.propDecidable C) a b
theorem cif_t {α : Type} {C : Prop} {a b : α} (h : C) : cif C a b = a := @if_pos _ (Classical.propDecidable C) h _ _ _
theorem cif_f {α : Type} {C : Prop} {a b : α} (h : ¬ C) : cif C a b = b := @if_neg _ (Classical.propDecidable C) h _ _ _
theorem cif_cg {α : Type} {C D : Prop} {a b : α} (h : C ↔ D) : cif C a b = cif D a b := by rw [propext h]
theorem cp_in {f g : Nat → Int32} {sp dp n k : Nat} (h1 : dp ≤ k) (h2 : k < dp + n) : va_cpy f g sp dp n k = f (sp + (k - dp)) := if_pos ⟨h1, h2⟩
theorem cp_out {f g : Nat → Int32} {sp dp n k : Nat} (h : k < dp ∨ dp + n ≤ k) : va_cpy f g sp dp n k = g k := if_neg (by omega)
theorem c0c : (0 : Int32).toNatClampNeg = 0 := rfl
theorem c10c : (10 : Int32).toNatClampNeg = 10 := rfl
theorem c90c : (90 : Int32).toNatClampNeg = 90 := rfl
/-- what changes by acts: the marking, the goal, the acts that can be undone, how many -/
abbrev aV : Type := (Nat → Nat) × (Nat → Nat) × (Nat → Nat → Nat) × Nat
def cS (m : mMem) (x n P T : Nat) (tk pt : Nat → Nat → Nat) (fi : Nat → Nat) (V : aV) : Prop :=
  (m.1 x = some (.inr 0) ∧ x ≠ 0) ∧ m.2.1 x 1 = .ref n ∧ cNet m n P T tk pt fi ∧ okNet P T tk pt fi ∧ (∀ p, p < 10 → m.2.2.1 (64 * x + 4) p = nI (V.1 p)) ∧ (∀ p, V.1 p ≤ 99) ∧ (∀ p, p < 10 → m.2.2.1 (64 * x + 5) p = nI (V.2.1 p)) ∧ (∀ p, V.2.1 p ≤ 99) ∧ iF m x 6 = nI V.2.2.2 ∧ V.2.2.2 ≤ 10 ∧ (∀ a, a < V.2.2.2 → ∀ p, p < 10 → m.2.2.1 (64 * x + 6) (10 * a + p) = nI (V.2.2.1 a p)) ∧ (∀ a p, V.2.2.1 a p ≤ 99)
def cA (x k : Nat) : Prop := k = 64 * x + 4 ∨ k = 64 * x + 5 ∨ k = 64 * x + 6
def cF (x k f : Nat) : Prop := k = x ∧ (f = 6 ∨ f = 8)
/-- behind a call of the class that is no net(): what stands, and the version tells another marking -/
def cOk (x : Nat) (V V' : aV) (m m' : mMem) : Prop := mTo (cA x) (cF x) m m' ∧ ((iF m' x 8 = iF m x 8 ∧ V'.1 = V.1) ∨ iF m' x 8 = iF m x 8 + 1)
/-- an act: the marking as it was can be come back to -/
def pushV (V : aV) (mk : Nat → Nat) : aV := (mk, V.2.1, pAc V.2.2.1 V.2.2.2 V.1, pNa V.2.2.2)
theorem pNa_le {na : Nat} (h : na ≤ 10) : pNa na ≤ 10 := by unfold pNa; split <;> omega
theorem pAc_le {ac : Nat → Nat → Nat} {na : Nat} {mk : Nat → Nat} (h1 : ∀ a p, ac a p ≤ 99) (h2 : ∀ p, mk p ≤ 99) (a p : Nat) : pAc ac na mk a p ≤ 99 := by
  unfold pAc
  split
  · split
    · exact h1 _ _
    · exact h2 _
  · split
    · exact h2 _
    · exact h1 _ _
theorem frd_99 {P T t : Nat} {tk pt : Nat → Nat → Nat} {fi mk : Nat → Nat} (hk : okNet P T tk pt fi) (hm : ∀ p, mk p ≤ 99) (h : rdyS P tk pt mk t) (p : Nat) : frd tk pt mk t p ≤ 99 := by
  unfold frd
  by_cases q : p < P
  · exact (h p q).2
  · have := hk.2.2.2.2.2.1 t p (Or.inl (by omega))
    have := hm p
    omega
noncomputable def tokA (P : Nat) (fi : Nat → Nat) (V : aV) (y z : Int32) : Int32 := cif (∃ j, j < P ∧ y = nI j) (cif (z = 0) (nI (V.1 y.toNatClampNeg)) (cif (z = 1) (nI (fi y.toNatClampNeg)) (cif (z = 2) (nI (V.2.1 y.toNatClampNeg)) (-1)))) (-1)
noncomputable def canA (P T : Nat) (tk pt : Nat → Nat → Nat) (V : aV) : Int32 := cif (0 < P) (nI (bs (rdyS P tk pt V.1) T)) (-1)
noncomputable def fireA (P T : Nat) (tk pt : Nat → Nat → Nat) (V : aV) (y : Int32) : Int32 := cif (∃ t, t < T ∧ y = nI t) (cif (rdyS P tk pt V.1 y.toNatClampNeg) (nI (pcN (bs (rdyS P tk pt (frd tk pt V.1 y.toNatClampNeg)) T))) (-3)) (-2)
noncomputable def fireV (P T : Nat) (tk pt : Nat → Nat → Nat) (V : aV) (y : Int32) : aV := cif ((∃ t, t < T ∧ y = nI t) ∧ rdyS P tk pt V.1 y.toNatClampNeg) (pushV V (frd tk pt V.1 y.toNatClampNeg)) V
def tn99 (z : Int32) : Prop := ∃ j, j ≤ 99 ∧ z = nI j
noncomputable def putA (P : Nat) (V : aV) (y z : Int32) : Int32 := cif (tn99 z) (cif (∃ j, j < P ∧ y = nI j) (nI (V.1 y.toNatClampNeg)) (-2)) (-1)
noncomputable def putV (P : Nat) (V : aV) (y z : Int32) : aV := cif (tn99 z ∧ ∃ j, j < P ∧ y = nI j) (pushV V (updN V.1 y.toNatClampNeg z.toNatClampNeg)) V
noncomputable def goalA (P : Nat) (V : aV) (y z : Int32) : Int32 := cif (tn99 z) (cif (∃ j, j < P ∧ y = nI j) (nI (V.2.1 y.toNatClampNeg)) (-2)) (-1)
noncomputable def goalV (P : Nat) (V : aV) (y z : Int32) : aV := cif (tn99 z ∧ ∃ j, j < P ∧ y = nI j) (V.1, updN V.2.1 y.toNatClampNeg z.toNatClampNeg, V.2.2) V
noncomputable def homeA (P : Nat) (fi : Nat → Nat) : Int32 := cif (0 < P) (nI (fb_sm fi P)) (-2)
noncomputable def homeV (P : Nat) (fi : Nat → Nat) (V : aV) : aV := cif (0 < P) (pushV V fi) V
noncomputable def undoA (P : Nat) (V : aV) : Int32 := cif (0 < P) (cif (V.2.2.2 = 0) (-3) (nI (V.2.2.2 - 1))) (-2)
noncomputable def undoV (P : Nat) (V : aV) : aV := cif (0 < P ∧ V.2.2.2 ≠ 0) (V.2.2.1 (V.2.2.2 - 1), V.2.1, V.2.2.1, V.2.2.2 - 1) V
noncomputable def countA (P T len : Nat) (V : aV) (y : Int32) : Int32 := cif (y = 0) (nI P) (cif (y = 1) (nI T) (cif (y = 2) (nI (fb_sm V.1 P)) (cif (y = 3) (nI len) (cif (y = 4) (nI V.2.2.2) (-1)))))
/-- the bit with the number n -/
def kthB (x n : Nat) : Nat := fa_first (fun i => x.testBit i && decide (ctb x i = n)) 10
theorem kthB_ok {x n : Nat} (hx : x < 1024) (h : n < pcN x) : kthB x n < 10 ∧ x.testBit (kthB x n) = true ∧ ctb x (kthB x n) = n := by
  rw [pc_ct (k := 10) hx (by omega)] at h
  obtain ⟨i, h1, h2, h3⟩ := fb_ct_kth h
  have hl : kthB x n < 10 := by
    refine Nat.lt_of_not_le fun q => ?_
    have := fa_first_no (fun i => x.testBit i && decide (ctb x i = n)) 10 i (by unfold kthB at q; omega)
    rw [Bool.and_eq_false_iff] at this
    rcases this with a | a
    · rw [h2] at a; cases a
    · exact absurd h3 (of_decide_eq_false a)
  have := fa_first_yes (fun i => x.testBit i && decide (ctb x i = n)) 10 hl
  rw [Bool.and_eq_true, decide_eq_true_eq] at this
  exact ⟨hl, this.1, this.2⟩
/-- a run: how often one fired, and the marking -/
noncomputable def rnk (P T : Nat) (tk pt : Nat → Nat → Nat) : Nat → Nat → (Nat → Nat) → Nat × (Nat → Nat)
  | 0, _, w => (0, w)
  | k + 1, s, w => cif (bs (rdyS P tk pt w) T = 0) (0, w) ((rnk P T tk pt k ((1103 * s + 12345) % 1000003) (frd tk pt w (kthB (bs (rdyS P tk pt w) T) ((1103 * s + 12345) % 1000003 % pcN (bs (rdyS P tk pt w) T))))).1 + 1, (rnk P T tk pt k ((1103 * s + 12345) % 1000003) (frd tk pt w (kthB (bs (rdyS P tk pt w) T) ((1103 * s + 12345) % 1000003 % pcN (bs (rdyS P tk pt w) T))))).2)
def okR (y z : Int32) : Prop := (∃ j, j < 1000000 ∧ y = nI j) ∧ ∃ j, 1 ≤ j ∧ j ≤ 200 ∧ z = nI j
noncomputable def runA (P T : Nat) (tk pt : Nat → Nat → Nat) (V : aV) (y z : Int32) : Int32 := cif (okR y z) (cif (0 < P) (nI (rnk P T tk pt z.toNatClampNeg y.toNatClampNeg V.1).1) (-2)) (-1)
noncomputable def runV (P T : Nat) (tk pt : Nat → Nat → Nat) (V : aV) (y z : Int32) : aV := cif (okR y z ∧ 0 < P) (pushV V (rnk P T tk pt z.toNatClampNeg y.toNatClampNeg V.1).2) V
section CACT
variable {d x n P T : Nat} {tk pt : Nat → Nat → Nat} {fi : Nat → Nat} {V : aV} {m : mMem} {Q : Option Value → mMem → Prop}
theorem cS.ne (h : cS m x n P T tk pt fi V) : n ≠ x := by
  intro e
  have h1 := h.1.1
  have h2 := h.2.2.1.1.1
  rw [e, h1] at h2
  cases h2
theorem cS.told (h : cS m x n P T tk pt fi V) : ∃ r : Nat, m.2.1 x 1 = .ref r ∧ (m.1 r = some (.inr 2) ∧ r ≠ 0) ∧ r = n := ⟨n, h.2.1, h.2.2.1.1, rfl⟩
theorem cOk.rf (hT : mWT m) : cOk x V V m m := ⟨mTo.rf hT, Or.inl ⟨rfl, rfl⟩⟩
theorem ev_hasNet (hd : 1 ≤ d) (hT : mWT m) (hS : cS m x n P T tk pt fi V) (hQ : Q (some (.int (bz (0 < P)))) m) : mEv d 21 [.ref x] m Q := by
  have h10 := hS.2.2.2.1.1
  refine mEv.at (by omega) G21 (Nat.le_of_ble_eq_true rfl) ?_
  refine bk21_0 hT hS.1 ⟨n, hS.2.1, hS.2.2.1.1, ?_⟩
  simp (disch := omega) only [forall_eq, nIle, nI_ltI, nIeq, nI_mul, nIx10, n10x, nI_add, nI_clamp, nIin_iff, nIinc, nIlt0, nIeq0, nIle0, nIle1, n1lt, n0lt, nIeq1, bz_0, Classical.not_not, hS.2.2.1.2.1]
  refine ⟨fun c => ?_, fun c => ?_⟩
  · rw [bz_f (by omega)] at hQ; exact hQ
  · rw [bz_t (by omega)] at hQ; exact hQ
theorem ev_tn99 {z : Int32} (hd : 1 ≤ d) (hT : mWT m) (hQ : Q (some (.int (bz (tn99 z)))) m) : mEv d 31 [.int z] m Q := by
  refine mEv.at (by omega) G31 (Nat.le_of_ble_eq_true rfl) ?_
  refine bk31_0 hT ?_
  rcases pk_ix z (n := 100) (by omega) with h | h | ⟨j, hj, rfl⟩
  · refine ⟨fun _ => ?_, fun c => absurd h c⟩
    rw [bz_f] at hQ
    · exact hQ
    · rintro ⟨j, h1, rfl⟩; exact nI_nlt0 (by omega) h
  · have h2 : ¬ tn99 z := by
      rintro ⟨j, h1, rfl⟩
      rw [nIle (by omega) (by omega)] at h; omega
    rw [bz_f h2] at hQ
    refine ⟨fun _ => hQ, fun _ => ⟨fun _ => hQ, fun c => ?_⟩⟩
    rw [l99, fa_lt, nI_toInt (by omega)] at c
    rw [fa_le, nI_toInt (by omega)] at h
    omega
  · rw [bz_t ⟨j, by omega, rfl⟩] at hQ
    simp (disch := omega) only [forall_eq, nIle, nI_ltI, nIeq, nI_mul, nIx10, n10x, nI_add, nI_clamp, nIin_iff, nIinc, nIlt0, nIeq0, nIle0, nIle1, n1lt, n0lt, nIeq1, bz_0, Classical.not_not, l99]
    exact ⟨fun c => c.elim, fun _ => ⟨fun c => by omega, fun _ => hQ⟩⟩
theorem ev_tokensC {y z : Int32} (hd : 2 ≤ d) (hT : mWT m) (hS : cS m x n P T tk pt fi V) (hQ : Q (some (.int (tokA P fi V y z))) m) : mEv d 18 [.ref x, .int y, .int z] m Q := by
  obtain ⟨hO, hn, hN, hk, s1, s2, s3, s4, s5, s6, s7, s8⟩ := id hS
  have h10 := hk.1
  refine mEv.at (by omega) G18 (Nat.le_of_ble_eq_true rfl) ?_
  refine bk18_0 hT hO ⟨n, hn, hN.1, ?_⟩
  refine ev_hasPl (by omega) hT hN hk _ ?_
  refine bk18_8 hT hO ?_
  rw [bz_n0]
  unfold tokA at hQ
  refine ⟨fun c => ?_, fun c => ?_⟩
  · rw [cif_t c] at hQ
    obtain ⟨j, hj, rfl⟩ := c
    rw [nI_clamp (by omega)] at hQ
    simp (disch := omega) only [forall_eq, nIle, nI_ltI, nIeq, nI_mul, nIx10, n10x, nI_add, nI_clamp, nIin_iff, nIinc, nIlt0, nIeq0, nIle0, nIle1, n1lt, n0lt, nIeq1, bz_0, Classical.not_not, s1 j (by omega), s3 j (by omega)]
    refine ⟨fun c => ⟨by omega, ?_⟩, fun c => ⟨fun c2 => ⟨n, hn, hN.1, by omega, ?_⟩, fun c2 => ⟨fun c3 => ⟨by omega, ?_⟩, fun c3 => ?_⟩⟩⟩
    · rw [cif_t c] at hQ; exact hQ
    · rw [cif_f c, cif_t c2] at hQ; rw [hN.2.2.2.2.2 j (by omega)]; exact hQ
    · rw [cif_f c, cif_f c2, cif_t c3] at hQ; exact hQ
    · rw [cif_f c, cif_f c2, cif_f c3] at hQ; exact hQ
  · rw [cif_f c] at hQ; exact hQ
theorem ev_canC (hd : 3 ≤ d) (hT : mWT m) (hS : cS m x n P T tk pt fi V) (hQ : Q (some (.int (canA P T tk pt V))) m) : mEv d 20 [.ref x] m Q := by
  obtain ⟨hO, hn, hN, hk, s1, s2, s3, s4, s5, s6, s7, s8⟩ := id hS
  refine mEv.at (by omega) G20 (Nat.le_of_ble_eq_true rfl) ?_
  refine bk20_0 hT hO ?_
  refine ev_hasNet (by omega) hT hS ?_
  refine bk20_4 hT hO ?_
  rw [bz_0]
  unfold canA at hQ
  refine ⟨fun c => ?_, fun c => ⟨n, hn, hN.1, ?_⟩⟩
  · rw [cif_f c] at hQ; exact hQ
  · rw [cif_t (Classical.not_not.mp c)] at hQ
    refine ev_readyBits (by omega) hT hN hk (hT.arr hO 0 rfl (by decide)) (by omega) s1 s2 ?_
    exact bk20_18 hT hO hQ
theorem ev_tokAll (hd : 1 ≤ d) (hT : mWT m) (hS : cS m x n P T tk pt fi V) (hQ : Q (some (.int (nI (fb_sm V.1 P)))) m) : mEv d 35 [.ref x] m Q := by
  obtain ⟨hO, hn, hN, hk, s1, s2, s3, s4, s5, s6, s7, s8⟩ := id hS
  have h10 := hk.1
  refine mEv.at (by omega) G35 (Nat.le_of_ble_eq_true rfl) ?_
  refine bk35_0 hT hO ?_
  refine upto (e := P) (X := fun p => mEs (d - 1) 35 _ g35 (4, [some (.ref x), some (.int (nI (fb_sm V.1 p))), some (.int (nI p))], [], m) Q) ?_ ?_ 0 (Nat.zero_le _)
  · refine bk35_4 hT hO ⟨n, hn, hN.1, ?_⟩
    simp (disch := omega) only [forall_eq, nIle, nI_ltI, nIeq, nI_mul, nIx10, n10x, nI_add, nI_clamp, nIin_iff, nIinc, nIlt0, nIeq0, nIle0, nIle1, n1lt, n0lt, nIeq1, bz_0, Classical.not_not, hN.2.1]
    exact ⟨fun _ => hQ, fun c => absurd (Nat.le_refl _) c⟩
  · intro p hp ih
    refine bk35_4 hT hO ⟨n, hn, hN.1, ?_⟩
    simp (disch := omega) only [forall_eq, nIle, nI_ltI, nIeq, nI_mul, nIx10, n10x, nI_add, nI_clamp, nIin_iff, nIinc, nIlt0, nIeq0, nIle0, nIle1, n1lt, n0lt, nIeq1, bz_0, Classical.not_not, hN.2.1, s1 p (by omega)]
    exact ⟨fun c => by omega, fun _ => ⟨by omega, ih⟩⟩
theorem ev_keepAct (hd : 2 ≤ d) (hT : mWT m) (hS : cS m x n P T tk pt fi V)
    (hQ : ∀ m', mTo (cA x) (cF x) m m' → iF m' x 8 = iF m x 8 + 1 → cS m' x n P T tk pt fi (pushV V V.1) → Q none m') : mEv d 26 [.ref x] m Q := by
  obtain ⟨hO, hn, hN, hk, s1, s2, s3, s4, s5, s6, s7, s8⟩ := id hS
  have hne := hS.ne
  refine mEv.at (by omega) G26 (Nat.le_of_ble_eq_true rfl) ?_
  have fin : ∀ m', mTo (cA x) (cF x) m m' → iF m' x 8 = iF m x 8 + 1 → (∀ p, p < 10 → m'.2.2.1 (64 * x + 4) p = nI (V.1 p)) → (∀ p, p < 10 → m'.2.2.1 (64 * x + 5) p = nI (V.2.1 p)) → iF m' x 6 = nI (pNa V.2.2.2) → (∀ a, a < pNa V.2.2.2 → ∀ p, p < 10 → m'.2.2.1 (64 * x + 6) (10 * a + p) = nI (pAc V.2.2.1 V.2.2.2 V.1 a p)) → Q none m' := by
    intro m' T' z8 z1 z2 z3 z4
    refine hQ m' T' z8 ⟨T'.ob hO, by rw [T'.fl (by unfold cF; omega)]; exact hn, hN.to T' (by unfold cA; omega) (by unfold cA; omega) (by unfold cA; omega) (by unfold cF; omega) (by unfold cF; omega), hk, z1, s2, z2, s4, z3, pNa_le s6, z4, fun a p => pAc_le s8 s2 a p⟩
  refine bk26_0 hT hO (by omega) ?_
  simp only [c0c, c10c, c90c]
  simp (disch := omega) only [forall_eq, nIle, nI_ltI, nIeq, nI_mul, nIx10, n10x, nI_add, nI_clamp, nIin_iff, nIinc, nIlt0, nIeq0, nIle0, nIle1, n1lt, n0lt, nIeq1, bz_0, Classical.not_not, s5, l10, l90]
  refine ⟨fun c => ⟨⟨by decide, not_false, not_false, by omega, by omega⟩, ?_⟩, fun c => ⟨⟨not_false, by decide, not_false, by omega, by omega⟩, ?_⟩⟩
  · simp (disch := omega) only [forall_eq, nIle, nI_ltI, nIeq, nI_mul, nIx10, n10x, nI_add, nI_clamp, nIin_iff, nIinc, nIlt0, nIeq0, nIle0, nIle1, n1lt, n0lt, nIeq1, bz_0, Classical.not_not, rdI_same, rdI_ne, rI_F, rI_J, rJ_F, rJ_I, rdJ_same, rdJ_ne, iF_s, iF_nf, iF_nk, iF_I, iF_J, up_s, up_n, s5]
    refine fin _ ?_ ?_ ?_ ?_ ?_ ?_
    · exact (((mTo.rf hT).sI (by unfold cA; omega)).sF hO ⟨rfl, Or.inl rfl⟩ (by decide)).sF hO ⟨rfl, Or.inr rfl⟩ (by decide)
    · simp (disch := omega) only [forall_eq, nIle, nI_ltI, nIeq, nI_mul, nIx10, n10x, nI_add, nI_clamp, nIin_iff, nIinc, nIlt0, nIeq0, nIle0, nIle1, n1lt, n0lt, nIeq1, bz_0, Classical.not_not, rdI_same, rdI_ne, rI_F, rI_J, rJ_F, rJ_I, rdJ_same, rdJ_ne, iF_s, iF_nf, iF_nk, iF_I, iF_J, up_s, up_n]
    · intro p hp; simp (disch := omega) only [forall_eq, nIle, nI_ltI, nIeq, nI_mul, nIx10, n10x, nI_add, nI_clamp, nIin_iff, nIinc, nIlt0, nIeq0, nIle0, nIle1, n1lt, n0lt, nIeq1, bz_0, Classical.not_not, rdI_same, rdI_ne, rI_F, rI_J, rJ_F, rJ_I, rdJ_same, rdJ_ne, iF_s, iF_nf, iF_nk, iF_I, iF_J, up_s, up_n]; exact s1 p hp
    · intro p hp; simp (disch := omega) only [forall_eq, nIle, nI_ltI, nIeq, nI_mul, nIx10, n10x, nI_add, nI_clamp, nIin_iff, nIinc, nIlt0, nIeq0, nIle0, nIle1, n1lt, n0lt, nIeq1, bz_0, Classical.not_not, rdI_same, rdI_ne, rI_F, rI_J, rJ_F, rJ_I, rdJ_same, rdJ_ne, iF_s, iF_nf, iF_nk, iF_I, iF_J, up_s, up_n]; exact s3 p hp
    · simp (disch := omega) only [forall_eq, nIle, nI_ltI, nIeq, nI_mul, nIx10, n10x, nI_add, nI_clamp, nIin_iff, nIinc, nIlt0, nIeq0, nIle0, nIle1, n1lt, n0lt, nIeq1, bz_0, Classical.not_not, rdI_same, rdI_ne, rI_F, rI_J, rJ_F, rJ_I, rdJ_same, rdJ_ne, iF_s, iF_nf, iF_nk, iF_I, iF_J, up_s, up_n]; unfold pNa; rw [if_neg c]
    · intro a ha p hp
      unfold pNa at ha
      rw [if_neg c] at ha
      simp (disch := omega) only [forall_eq, nIle, nI_ltI, nIeq, nI_mul, nIx10, n10x, nI_add, nI_clamp, nIin_iff, nIinc, nIlt0, nIeq0, nIle0, nIle1, n1lt, n0lt, nIeq1, bz_0, Classical.not_not, rdI_same, rdI_ne, rI_F, rI_J, rJ_F, rJ_I, rdJ_same, rdJ_ne, iF_s, iF_nf, iF_nk, iF_I, iF_J, up_s, up_n]
      unfold pAc
      rw [if_neg c]
      by_cases e : a = V.2.2.2
      · subst e
        rw [if_pos rfl, cp_in (by omega) (by omega), show 0 + (10 * V.2.2.2 + p - V.2.2.2 * 10) = p by omega]
        exact s1 p hp
      · rw [if_neg e, cp_out (by omega)]
        exact s7 a (by omega) p hp
  · rw [c] at s7
    simp (disch := omega) only [forall_eq, nIle, nI_ltI, nIeq, nI_mul, nIx10, n10x, nI_add, nI_clamp, nIin_iff, nIinc, nIlt0, nIeq0, nIle0, nIle1, n1lt, n0lt, nIeq1, bz_0, Classical.not_not, rdI_same, rdI_ne, rI_F, rI_J, rJ_F, rJ_I, rdJ_same, rdJ_ne, iF_s, iF_nf, iF_nk, iF_I, iF_J, up_s, up_n, s5]
    simp (disch := omega) only [c, nIdec, nI_mul, nIx10, nIlt0, nI_clamp]
    refine ⟨⟨by decide, not_false, not_false, by omega, by omega⟩, ?_⟩
    simp (disch := omega) only [forall_eq, nIle, nI_ltI, nIeq, nI_mul, nIx10, n10x, nI_add, nI_clamp, nIin_iff, nIinc, nIlt0, nIeq0, nIle0, nIle1, n1lt, n0lt, nIeq1, bz_0, Classical.not_not, rdI_same, rdI_ne, rI_F, rI_J, rJ_F, rJ_I, rdJ_same, rdJ_ne, iF_s, iF_nf, iF_nk, iF_I, iF_J, up_s, up_n]
    refine fin _ ?_ ?_ ?_ ?_ ?_ ?_
    · exact (((((mTo.rf hT).sI (by unfold cA; omega)).sF hO ⟨rfl, Or.inl rfl⟩ (by decide)).sI (by unfold cA; omega)).sF hO ⟨rfl, Or.inl rfl⟩ (by decide)).sF hO ⟨rfl, Or.inr rfl⟩ (by decide)
    · simp (disch := omega) only [forall_eq, nIle, nI_ltI, nIeq, nI_mul, nIx10, n10x, nI_add, nI_clamp, nIin_iff, nIinc, nIlt0, nIeq0, nIle0, nIle1, n1lt, n0lt, nIeq1, bz_0, Classical.not_not, rdI_same, rdI_ne, rI_F, rI_J, rJ_F, rJ_I, rdJ_same, rdJ_ne, iF_s, iF_nf, iF_nk, iF_I, iF_J, up_s, up_n]
    · intro p hp; simp (disch := omega) only [forall_eq, nIle, nI_ltI, nIeq, nI_mul, nIx10, n10x, nI_add, nI_clamp, nIin_iff, nIinc, nIlt0, nIeq0, nIle0, nIle1, n1lt, n0lt, nIeq1, bz_0, Classical.not_not, rdI_same, rdI_ne, rI_F, rI_J, rJ_F, rJ_I, rdJ_same, rdJ_ne, iF_s, iF_nf, iF_nk, iF_I, iF_J, up_s, up_n]; exact s1 p hp
    · intro p hp; simp (disch := omega) only [forall_eq, nIle, nI_ltI, nIeq, nI_mul, nIx10, n10x, nI_add, nI_clamp, nIin_iff, nIinc, nIlt0, nIeq0, nIle0, nIle1, n1lt, n0lt, nIeq1, bz_0, Classical.not_not, rdI_same, rdI_ne, rI_F, rI_J, rJ_F, rJ_I, rdJ_same, rdJ_ne, iF_s, iF_nf, iF_nk, iF_I, iF_J, up_s, up_n]; exact s3 p hp
    · simp (disch := omega) only [forall_eq, nIle, nI_ltI, nIeq, nI_mul, nIx10, n10x, nI_add, nI_clamp, nIin_iff, nIinc, nIlt0, nIeq0, nIle0, nIle1, n1lt, n0lt, nIeq1, bz_0, Classical.not_not, rdI_same, rdI_ne, rI_F, rI_J, rJ_F, rJ_I, rdJ_same, rdJ_ne, iF_s, iF_nf, iF_nk, iF_I, iF_J, up_s, up_n]; unfold pNa; rw [if_pos c]
    · intro a ha p hp
      unfold pNa at ha
      rw [if_pos c] at ha
      simp (disch := omega) only [forall_eq, nIle, nI_ltI, nIeq, nI_mul, nIx10, n10x, nI_add, nI_clamp, nIin_iff, nIinc, nIlt0, nIeq0, nIle0, nIle1, n1lt, n0lt, nIeq1, bz_0, Classical.not_not, rdI_same, rdI_ne, rI_F, rI_J, rJ_F, rJ_I, rdJ_same, rdJ_ne, iF_s, iF_nf, iF_nk, iF_I, iF_J, up_s, up_n]
      unfold pAc
      rw [if_pos c]
      by_cases e : a < 9
      · rw [if_pos e, cp_out (by omega), cp_in (by omega) (by omega), show 10 + (10 * a + p - 0) = 10 * (a + 1) + p by omega]
        exact s7 (a + 1) (by omega) p hp
      · rw [if_neg e, cp_in (by omega) (by omega), show 0 + (10 * a + p - (10 - 1) * 10) = p by omega]
        exact s1 p hp
/-- the marking written anew -/
theorem cS.mk' {m' : mMem} {mk : Nat → Nat} (hS : cS m x n P T tk pt fi V) (T' : mTo (fun k => k = 64 * x + 4) (fun _ _ => False) m m') (h1 : ∀ p, p < 10 → m'.2.2.1 (64 * x + 4) p = nI (mk p)) (h2 : ∀ p, mk p ≤ 99) : cS m' x n P T tk pt fi (mk, V.2) := by
  obtain ⟨hO, hn, hN, hk, s1, s2, s3, s4, s5, s6, s7, s8⟩ := id hS
  refine ⟨T'.ob hO, by rw [T'.fl id]; exact hn, hN.to T' (by omega) (by omega) (by omega) id id, hk, h1, h2, ?_, s4, by rw [T'.nf id]; exact s5, s6, ?_, s8⟩
  · rw [T'.i (by omega)]; exact s3
  · rw [T'.i (by omega)]; exact s7
theorem moved_mk {t : Nat} {f : Nat → Int32} {mk : Nat → Nat} (hk : okNet P T tk pt fi) (hf : ∀ p, p < 10 → f p = nI (mk p)) (hr : rdyS P tk pt mk t) (p : Nat) (hp : p < 10) : moved f tk pt 0 t P p = nI (frd tk pt mk t p) := by
  unfold moved frd
  by_cases q : p < P
  · have := (hr p q).1
    rw [if_pos (by omega), hf p hp, Nat.sub_zero]
    by_cases e : tk t p ≤ pt t p
    · rw [pk_sub e, nI_add]; congr 1; omega
    · have e2 : nI (pt t p) - nI (tk t p) = - nI (tk t p - pt t p) := by
        rw [← pk_sub (show pt t p ≤ tk t p by omega), Int32.neg_sub]
      rw [e2, ← Int32.sub_eq_add_neg, pk_sub (by omega)]
      congr 1; omega
  · have := hk.2.2.2.2.2.1 t p (Or.inl (by omega))
    rw [if_neg (by omega), hf p hp, this.1, this.2]
    rfl
theorem ev_fireC {y : Int32} (hd : 4 ≤ d) (hT : mWT m) (hS : cS m x n P T tk pt fi V)
    (hQ : ∀ m', cOk x V (fireV P T tk pt V y) m m' → cS m' x n P T tk pt fi (fireV P T tk pt V y) → Q (some (.int (fireA P T tk pt V y))) m') : mEv d 24 [.ref x, .int y] m Q := by
  obtain ⟨hO, hn, hN, hk, s1, s2, s3, s4, s5, s6, s7, s8⟩ := id hS
  have hk2 := hk.2.1
  refine mEv.at (by omega) G24 (Nat.le_of_ble_eq_true rfl) ?_
  refine bk24_0 hT hO ⟨n, hn, hN.1, ?_⟩
  refine ev_hasTr (by omega) hT hN hk _ ?_
  refine bk24_8 hT hO ?_
  rw [bz_n0]
  refine ⟨fun c => ⟨n, hn, hN.1, ?_⟩, fun c => ?_⟩
  · obtain ⟨t, ht, rfl⟩ := id c
    refine ev_isReadyN (by omega) hT hN hk (hT.arr hO 0 rfl (by decide)) (by omega) s1 s2 (by omega) ?_
    refine bk24_26 hT hO ?_
    rw [bz_n0]
    unfold fireA fireV at hQ
    rw [nI_clamp (by omega), cif_t c] at hQ
    refine ⟨fun c2 => ?_, fun c2 => ?_⟩
    · rw [cif_t c2, cif_t ⟨c, c2⟩] at hQ
      refine ev_keepAct (by omega) hT hS ?_
      intro m' T' z8 S'
      obtain ⟨gO, gn, gN, gk, g1, g2, g3, g4, g5, g6, g7, g8⟩ := id S'
      refine bk24_36 T'.wt gO ⟨n, gn, gN.1, ?_⟩
      refine ev_move (t := t) (by omega) T'.wt gN hk (T'.wt.arr gO 0 rfl (by decide)) (by have := hk.1; omega) (by decide) (by omega) (by omega) (by omega) ht ?_
      have Tm := (mTo.rf (A := fun k => k = 64 * x + 4) (F := fun _ _ => False) T'.wt).sI (k := 64 * x + 4) (g := moved (m'.2.2.1 (64 * x + 4)) tk pt 0 t P) rfl
      have S2 := S'.mk' (mk := frd tk pt V.1 t) Tm (fun p hp => by rw [rdI_same]; exact moved_mk hk g1 c2 p hp) (frd_99 hk s2 c2)
      obtain ⟨fO, fn, fN, fk, f1, f2, f3, f4, f5, f6, f7, f8⟩ := id S2
      refine bk24_48 Tm.wt fO ⟨n, fn, fN.1, ?_⟩
      refine ev_readyBits (by omega) Tm.wt fN hk (Tm.wt.arr fO 0 rfl (by decide)) (by omega) f1 f2 ?_
      refine bk24_59 Tm.wt fO ?_
      have hb := bs_small (rdyS P tk pt (frd tk pt V.1 t)) hk2
      refine ev_bitCount (by omega) Tm.wt (Nat.lt_trans hb (by decide)) ?_
      refine bk24_62 Tm.wt fO (hQ _ ⟨T'.tr (Tm.mono (fun k h => by unfold cA; omega) (fun k f h => h.elim)), Or.inr ?_⟩ S2)
      rw [Tm.nf id]; exact z8
    · rw [cif_f c2, cif_f (fun z => c2 z.2)] at hQ
      exact hQ m (cOk.rf hT) hS
  · unfold fireA fireV at hQ
    rw [cif_f c, cif_f (fun z => c z.1)] at hQ
    exact hQ m (cOk.rf hT) hS
theorem ev_putC {y z : Int32} (hd : 3 ≤ d) (hT : mWT m) (hS : cS m x n P T tk pt fi V)
    (hQ : ∀ m', cOk x V (putV P V y z) m m' → cS m' x n P T tk pt fi (putV P V y z) → Q (some (.int (putA P V y z))) m') : mEv d 30 [.ref x, .int y, .int z] m Q := by
  obtain ⟨hO, hn, hN, hk, s1, s2, s3, s4, s5, s6, s7, s8⟩ := id hS
  have h10 := hk.1
  refine mEv.at (by omega) G30 (Nat.le_of_ble_eq_true rfl) ?_
  refine bk30_0 hT hO ?_
  refine ev_tn99 (by omega) hT ?_
  refine bk30_4 hT hO ?_
  rw [bz_n0]
  unfold putA putV at hQ
  refine ⟨fun c => ⟨n, hn, hN.1, ?_⟩, fun c => ?_⟩
  · rw [cif_t c] at hQ
    refine ev_hasPl (by omega) hT hN hk _ ?_
    refine bk30_17 hT hO ?_
    rw [bz_n0]
    refine ⟨fun c2 => ?_, fun c2 => ?_⟩
    · rw [cif_t c2, cif_t ⟨c, c2⟩] at hQ
      obtain ⟨w, hw, rfl⟩ := c
      obtain ⟨j, hj, rfl⟩ := c2
      rw [nI_clamp (by omega), nI_clamp (by omega)] at hQ
      refine ev_keepAct (by omega) hT hS ?_
      intro m' T' z8 S'
      obtain ⟨gO, gn, gN, gk, g1, g2, g3, g4, g5, g6, g7, g8⟩ := id S'
      refine bk30_27 T'.wt gO ?_
      simp (disch := omega) only [forall_eq, nIle, nI_ltI, nIeq, nI_mul, nIx10, n10x, nI_add, nI_clamp, nIin_iff, nIinc, nIlt0, nIeq0, nIle0, nIle1, n1lt, n0lt, nIeq1, bz_0, Classical.not_not, g1 j (by omega)]
      refine ⟨by omega, by omega, ?_⟩
      have Tm := (mTo.rf (A := fun k => k = 64 * x + 4) (F := fun _ _ => False) T'.wt).sI (k := 64 * x + 4) (g := upd (m'.2.2.1 (64 * x + 4)) j (nI w)) rfl
      have S2 := S'.mk' (mk := updN V.1 j w) Tm (fun p hp => by
        rw [rdI_same]
        by_cases e : p = j
        · subst e; rw [up_s, updN_s]
        · rw [up_n e, updN_n e]; exact g1 p hp) (fun p => by
        by_cases e : p = j
        · subst e; rw [updN_s]; exact hw
        · rw [updN_n e]; exact s2 p)
      refine hQ _ ⟨T'.tr (Tm.mono (fun k h => by unfold cA; omega) (fun k f h => h.elim)), Or.inr ?_⟩ S2
      rw [Tm.nf id]; exact z8
    · rw [cif_f c2, cif_f (fun z => c2 z.2)] at hQ
      exact hQ m (cOk.rf hT) hS
  · rw [cif_f c, cif_f (fun z => c z.1)] at hQ
    exact hQ m (cOk.rf hT) hS
theorem ev_goalC {y z : Int32} (hd : 3 ≤ d) (hT : mWT m) (hS : cS m x n P T tk pt fi V)
    (hQ : ∀ m', cOk x V (goalV P V y z) m m' → cS m' x n P T tk pt fi (goalV P V y z) → Q (some (.int (goalA P V y z))) m') : mEv d 37 [.ref x, .int y, .int z] m Q := by
  obtain ⟨hO, hn, hN, hk, s1, s2, s3, s4, s5, s6, s7, s8⟩ := id hS
  have h10 := hk.1
  refine mEv.at (by omega) G37 (Nat.le_of_ble_eq_true rfl) ?_
  refine bk37_0 hT hO ?_
  refine ev_tn99 (by omega) hT ?_
  refine bk37_4 hT hO ?_
  rw [bz_n0]
  unfold goalA goalV at hQ
  refine ⟨fun c => ⟨n, hn, hN.1, ?_⟩, fun c => ?_⟩
  · rw [cif_t c] at hQ
    refine ev_hasPl (by omega) hT hN hk _ ?_
    refine bk37_17 hT hO ?_
    rw [bz_n0]
    refine ⟨fun c2 => ?_, fun c2 => ?_⟩
    · rw [cif_t c2, cif_t ⟨c, c2⟩] at hQ
      obtain ⟨w, hw, rfl⟩ := c
      obtain ⟨j, hj, rfl⟩ := c2
      rw [nI_clamp (by omega), nI_clamp (by omega)] at hQ
      simp (disch := omega) only [forall_eq, nIle, nI_ltI, nIeq, nI_mul, nIx10, n10x, nI_add, nI_clamp, nIin_iff, nIinc, nIlt0, nIeq0, nIle0, nIle1, n1lt, n0lt, nIeq1, bz_0, Classical.not_not, s3 j (by omega)]
      refine ⟨by omega, by omega, ?_⟩
      have Tm := (mTo.rf (A := cA x) (F := cF x) hT).sI (k := 64 * x + 5) (g := upd (m.2.2.1 (64 * x + 5)) j (nI w)) (by unfold cA; omega)
      refine hQ _ ⟨Tm, Or.inl ⟨rfl, rfl⟩⟩ ⟨hO, hn, hN.sI (by omega) (by omega) (by omega), hk, ?_, s2, ?_, ?_, s5, s6, ?_, s8⟩
      · rw [rdI_ne (by omega)]; exact s1
      · intro p hp
        rw [rdI_same]
        by_cases e : p = j
        · subst e; rw [up_s]; show _ = nI (updN V.2.1 p w p); rw [updN_s]
        · rw [up_n e]; show _ = nI (updN V.2.1 j w p); rw [updN_n e]; exact s3 p hp
      · intro p
        show updN V.2.1 j w p ≤ 99
        by_cases e : p = j
        · subst e; rw [updN_s]; exact hw
        · rw [updN_n e]; exact s4 p
      · rw [rdI_ne (by omega)]; exact s7
    · rw [cif_f c2, cif_f (fun z => c2 z.2)] at hQ
      exact hQ m (cOk.rf hT) hS
  · rw [cif_f c, cif_f (fun z => c z.1)] at hQ
    exact hQ m (cOk.rf hT) hS
theorem ev_homeC (hd : 3 ≤ d) (hT : mWT m) (hS : cS m x n P T tk pt fi V)
    (hQ : ∀ m', cOk x V (homeV P fi V) m m' → cS m' x n P T tk pt fi (homeV P fi V) → Q (some (.int (homeA P fi))) m') : mEv d 34 [.ref x] m Q := by
  obtain ⟨hO, hn, hN, hk, s1, s2, s3, s4, s5, s6, s7, s8⟩ := id hS
  refine mEv.at (by omega) G34 (Nat.le_of_ble_eq_true rfl) ?_
  refine bk34_0 hT hO ?_
  refine ev_hasNet (by omega) hT hS ?_
  refine bk34_4 hT hO ?_
  rw [bz_n0]
  unfold homeA homeV at hQ
  refine ⟨fun c => ?_, fun c => ?_⟩
  · rw [cif_t c, cif_t c] at hQ
    refine ev_keepAct (by omega) hT hS ?_
    intro m' T' z8 S'
    obtain ⟨gO, gn, gN, gk, g1, g2, g3, g4, g5, g6, g7, g8⟩ := id S'
    refine bk34_14 T'.wt gO (by omega) ⟨n, gn, gN.1, ⟨by decide, by decide, by decide, by decide, by decide⟩, ?_⟩
    rintro m2 rfl
    simp only [c0c, c10c]
    have Tm := (mTo.rf (A := fun k => k = 64 * x + 4) (F := fun _ _ => False) T'.wt).sI (k := 64 * x + 4) (g := va_cpy (m'.2.2.1 (64 * n + 1)) (m'.2.2.1 (64 * x + 4)) 0 0 10) rfl
    have S2 := S'.mk' (mk := fi) Tm (fun p hp => by
        rw [rdI_same, cp_in (by omega) (by omega), show 0 + (p - 0) = p by omega]
        exact gN.2.2.2.2.2 p hp) hk.2.2.2.2.1
    refine ev_tokAll (by omega) Tm.wt S2 ?_
    refine bk34_36 Tm.wt S2.1 (hQ _ ⟨T'.tr (Tm.mono (fun k h => by unfold cA; omega) (fun k f h => h.elim)), Or.inr ?_⟩ S2)
    rw [Tm.nf id]; exact z8
  · rw [cif_f c, cif_f c] at hQ
    exact hQ m (cOk.rf hT) hS
theorem ev_undoC (hd : 2 ≤ d) (hT : mWT m) (hS : cS m x n P T tk pt fi V)
    (hQ : ∀ m', cOk x V (undoV P V) m m' → cS m' x n P T tk pt fi (undoV P V) → Q (some (.int (undoA P V))) m') : mEv d 36 [.ref x] m Q := by
  obtain ⟨hO, hn, hN, hk, s1, s2, s3, s4, s5, s6, s7, s8⟩ := id hS
  have hne := hS.ne
  refine mEv.at (by omega) G36 (Nat.le_of_ble_eq_true rfl) ?_
  refine bk36_0 hT hO ?_
  refine ev_hasNet (by omega) hT hS ?_
  refine bk36_4 hT hO (by omega) ?_
  rw [bz_n0]
  unfold undoA undoV at hQ
  simp only [c0c, c10c]
  simp (disch := omega) only [forall_eq, nIle, nI_ltI, nIeq, nI_mul, nIx10, n10x, nI_add, nI_clamp, nIin_iff, nIinc, nIlt0, nIeq0, nIle0, nIle1, n1lt, n0lt, nIeq1, bz_0, Classical.not_not, s5]
  refine ⟨fun c => ?_, fun c => ?_⟩
  · rw [cif_t c] at hQ
    refine ⟨fun c2 => ?_, fun c2 => ?_⟩
    · rw [cif_t ⟨c, c2⟩, cif_f c2] at hQ
      rw [nIdec (by omega)]
      simp (disch := omega) only [forall_eq, nIle, nI_ltI, nIeq, nI_mul, nIx10, n10x, nI_add, nI_clamp, nIin_iff, nIinc, nIlt0, nIeq0, nIle0, nIle1, n1lt, n0lt, nIeq1, bz_0, Classical.not_not, rdI_same, rdI_ne, rI_F, rI_J, rJ_F, rJ_I, rdJ_same, rdJ_ne, iF_s, iF_nf, iF_nk, iF_I, iF_J, up_s, up_n]
      refine ⟨⟨not_false, by decide, by decide, by omega, by omega⟩, ?_⟩
      have T' : mTo (cA x) (cF x) m (mSetF (mSetI (mSetF m x 6 (.int (nI (V.2.2.2 - 1)))) (64 * x + 4) (va_cpy (m.2.2.1 (64 * x + 6)) (m.2.2.1 (64 * x + 4)) ((V.2.2.2 - 1) * 10) 0 10)) x 8 (.int (iF m x 8 + 1))) := (((mTo.rf hT).sF hO ⟨rfl, Or.inl rfl⟩ (by decide)).sI (by unfold cA; omega)).sF hO ⟨rfl, Or.inr rfl⟩ (by decide)
      refine hQ _ ⟨T', Or.inr iF_s⟩ ⟨T'.ob hO, by rw [T'.fl (by unfold cF; omega)]; exact hn, hN.to T' (by unfold cA; omega) (by unfold cA; omega) (by unfold cA; omega) (by unfold cF; omega) (by unfold cF; omega), hk, ?_, fun p => s8 _ p, ?_, s4, ?_, ?_, ?_, s8⟩
      · intro p hp
        simp (disch := omega) only [forall_eq, nIle, nI_ltI, nIeq, nI_mul, nIx10, n10x, nI_add, nI_clamp, nIin_iff, nIinc, nIlt0, nIeq0, nIle0, nIle1, n1lt, n0lt, nIeq1, bz_0, Classical.not_not, rdI_same, rdI_ne, rI_F, rI_J, rJ_F, rJ_I, rdJ_same, rdJ_ne, iF_s, iF_nf, iF_nk, iF_I, iF_J, up_s, up_n]
        rw [cp_in (by omega) (by omega), show (V.2.2.2 - 1) * 10 + (p - 0) = 10 * (V.2.2.2 - 1) + p by omega]
        exact s7 _ (by omega) p hp
      · intro p hp; simp (disch := omega) only [forall_eq, nIle, nI_ltI, nIeq, nI_mul, nIx10, n10x, nI_add, nI_clamp, nIin_iff, nIinc, nIlt0, nIeq0, nIle0, nIle1, n1lt, n0lt, nIeq1, bz_0, Classical.not_not, rdI_same, rdI_ne, rI_F, rI_J, rJ_F, rJ_I, rdJ_same, rdJ_ne, iF_s, iF_nf, iF_nk, iF_I, iF_J, up_s, up_n]; exact s3 p hp
      · simp (disch := omega) only [forall_eq, nIle, nI_ltI, nIeq, nI_mul, nIx10, n10x, nI_add, nI_clamp, nIin_iff, nIinc, nIlt0, nIeq0, nIle0, nIle1, n1lt, n0lt, nIeq1, bz_0, Classical.not_not, rdI_same, rdI_ne, rI_F, rI_J, rJ_F, rJ_I, rdJ_same, rdJ_ne, iF_s, iF_nf, iF_nk, iF_I, iF_J, up_s, up_n]
      · show V.2.2.2 - 1 ≤ 10; omega
      · intro a ha p hp
        have ha' : a < V.2.2.2 - 1 := ha
        simp (disch := omega) only [forall_eq, nIle, nI_ltI, nIeq, nI_mul, nIx10, n10x, nI_add, nI_clamp, nIin_iff, nIinc, nIlt0, nIeq0, nIle0, nIle1, n1lt, n0lt, nIeq1, bz_0, Classical.not_not, rdI_same, rdI_ne, rI_F, rI_J, rJ_F, rJ_I, rdJ_same, rdJ_ne, iF_s, iF_nf, iF_nk, iF_I, iF_J, up_s, up_n]
        exact s7 a (by omega) p hp
    · rw [cif_f (fun z => z.2 c2), cif_t c2] at hQ
      exact hQ m (cOk.rf hT) hS
  · rw [cif_f c, cif_f (fun z => c z.1)] at hQ
    exact hQ m (cOk.rf hT) hS
end CACT
