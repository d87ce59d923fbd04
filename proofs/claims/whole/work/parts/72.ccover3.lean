/-! The class Cover: what is told. -/
def shV (v : Nat) : Int32 := if v = 1000000 then -9 else nI v
/-- the greatest of the first N numbers -/
def mxN (f : Nat → Nat) : Nat → Nat
  | 0 => 0
  | k + 1 => if mxN f k < f k then f k else mxN f k
theorem mxN_le {f : Nat → Nat} {M : Nat} : ∀ N, (∀ k, k < N → f k ≤ M) → mxN f N ≤ M := by
  intro N
  induction N with
  | zero => intro _; exact Nat.zero_le _
  | succ N ih =>
    intro h
    show (if mxN f N < f N then f N else mxN f N) ≤ M
    split
    · exact h N (Nat.lt_succ_self _)
    · exact ih (fun k hk => h k (by omega))
noncomputable def cct (C : Nat → Prop) : Nat → Nat
  | 0 => 0
  | k + 1 => cct C k + cif (C k) 1 0
theorem cct_t {C : Nat → Prop} {k : Nat} (h : C k) : cct C (k + 1) = cct C k + 1 := by show _ + cif _ _ _ = _; rw [cif_t h]
theorem cct_f {C : Nat → Prop} {k : Nat} (h : ¬ C k) : cct C (k + 1) = cct C k := by show _ + cif _ _ _ = _; rw [cif_f h]; rfl
theorem cct_le {C : Nat → Prop} : ∀ k, cct C k ≤ k := by
  intro k
  induction k with
  | zero => exact Nat.le_refl _
  | succ k ih =>
    by_cases q : C k
    · rw [cct_t q]; omega
    · rw [cct_f q]; omega
/-- what node() tells of the tree -/
noncomputable def nodeT (P T : Nat) (tk : Nat → Nat → Nat) (S : cvS) (i : Nat) (z : Int32) : Int32 := cif (z = 10) (oI S.2.2.1 i) (cif (z = 11) (oI S.2.2.2 i) (cif (z = 12) (nI (endS P T tk S.2.1 i)) (shV (S.2.1 i z.toNatClampNeg))))
section CCV3
variable {d c n P T r lr : Nat} {tk pt : Nat → Nat → Nat} {fi mk gl : Nat → Nat} {S : cvS} {m : mMem} {Q : Option Value → mMem → Prop}
theorem ev_shown {v : Nat} (hd : 1 ≤ d) (hT : mWT m) (hv : v ≤ 1000000) (hQ : Q (some (.int (shV v))) m) : mEv d 50 [.int (nI v)] m Q := by
  refine mEv.at (by omega) G50 (Nat.le_of_ble_eq_true rfl) ?_
  refine bk50_0 hT ?_
  simp (disch := omega) only [forall_eq, l2, l3, l4, l9, l10, l11, l12, l20, l30, l80, l90, l99, l100, l110, l200, l240, l252, l300, l1024, l1M, nI_mul, nIle, nI_ltI, nIeq, nIx10, n10x, nI_add, nI_clamp, nIin_iff, nIinc, nIlt0, nIeq0, nIle0, nIle1, n1lt, n0lt, nIeq1, bz_0, Classical.not_not]
  unfold shV at hQ
  refine ⟨fun c => ?_, fun c => ?_⟩
  · rw [if_neg c] at hQ; exact hQ
  · rw [if_pos c] at hQ; exact hQ
theorem ev_cvTell {i : Int32} {z : Int32} (hd : 2 ≤ d) (hT : mWT m) (hC : covC m c P T tk S) (hP : P ≤ 10) (h200 : S.1 ≤ 200) (hz : (∃ j, j < P ∧ z = nI j) ∨ z = 10 ∨ z = 11 ∨ z = 12) (hQ : Q (some (.int (cif (∃ j, j < S.1 ∧ i = nI j) (nodeT P T tk S i.toNatClampNeg z) (-1)))) m) : mEv d 49 [.ref c, .int i, .int z] m Q := by
  obtain ⟨hO, hok, h7, h | ⟨_, h2, hR, hE⟩⟩ := id hC
  · omega
  obtain ⟨r1, r2, r3, r4, r5⟩ := id hR
  refine mEv.at (by omega) G49 (Nat.le_of_ble_eq_true rfl) ?_
  refine bk49_0 hT hO ?_
  rw [r2]
  rcases pk_ix i (n := S.1) (by omega) with h | h | ⟨j, hj, rfl⟩
  · rw [cif_f] at hQ
    · exact ⟨fun _ => hQ, fun c => absurd h c⟩
    · rintro ⟨j, h1, rfl⟩; exact nI_nlt0 (by omega) h
  · rw [cif_f] at hQ
    · exact ⟨fun _ => hQ, fun _ => ⟨fun c => absurd h (Int32.not_le.mpr c), fun _ => hQ⟩⟩
    · rintro ⟨j, h1, rfl⟩; rw [nIle (by omega) (by omega)] at h; omega
  · rw [cif_t ⟨j, hj, rfl⟩, nI_clamp (by omega)] at hQ
    unfold nodeT at hQ
    rw [nI_clamp (by omega), r4 j hj, r5 j hj, hE j hj, nIin_iff (by omega)]
    refine ⟨fun c => absurd c (nI_nlt0 (by omega)), fun _ => ⟨fun _ => ⟨fun c => ⟨by omega, ?_⟩, fun c1 => ⟨fun c => ⟨by omega, ?_⟩, fun c2 => ⟨fun c => ⟨by omega, ?_⟩, fun c3 => ?_⟩⟩⟩, fun c => absurd ((nI_ltI (by omega) (by omega)).mpr hj) c⟩⟩
    · rw [cif_t c] at hQ; exact hQ
    · rw [cif_f c1, cif_t c] at hQ; exact hQ
    · rw [cif_f c1, cif_f c2, cif_t c] at hQ; exact hQ
    · rw [cif_f c1, cif_f c2, cif_f c3] at hQ
      rcases hz with ⟨w, hw, rfl⟩ | e | e | e
      · rw [nI_clamp (by omega)] at hQ
        simp (disch := omega) only [forall_eq, l2, l3, l4, l9, l10, l11, l12, l20, l30, l80, l90, l99, l100, l110, l200, l240, l252, l300, l1024, l1M, nI_mul, nIle, nI_ltI, nIeq, nIx10, n10x, nI_add, nI_clamp, nIin_iff, nIinc, nIlt0, nIeq0, nIle0, nIle1, n1lt, n0lt, nIeq1, bz_0, Classical.not_not, r1, r3 j hj w hw]
        refine ⟨fun c => c.elim, fun _ => ⟨fun c => by omega, fun _ => ⟨by omega, ?_⟩⟩⟩
        have := hok.2.2.2.1 j w hj
        refine ev_shown (by omega) hT (by omega) ?_
        exact bk49_87 hT hO hQ
      · exact absurd e c1
      · exact absurd e c2
      · exact absurd e c3
theorem ev_mostIn {p : Nat} (hd : 2 ≤ d) (hT : mWT m) (hC : covC m c P T tk S) (hP : P ≤ 10) (h200 : S.1 ≤ 200) (hp : p < P) (hQ : Q (some (.int (shV (mxN (fun k => S.2.1 k p) S.1)))) m) : mEv d 52 [.ref c, .int (nI p)] m Q := by
  obtain ⟨hO, hok, h7, h | ⟨_, h2, hR, hE⟩⟩ := id hC
  · omega
  obtain ⟨r1, r2, r3, r4, r5⟩ := id hR
  have hb : ∀ k, k < S.1 → S.2.1 k p ≤ 1000000 := fun k hk => by have := hok.2.2.2.1 k p hk; omega
  refine mEv.at (by omega) G52 (Nat.le_of_ble_eq_true rfl) ?_
  refine bk52_0 hT hO ?_
  refine upto (e := S.1) (X := fun k => mEs (d - 1) 52 _ g52 (4, [some (.ref c), some (.int (nI p)), some (.int (nI (mxN (fun k => S.2.1 k p) k))), some (.int (nI k))], [], m) Q) ?_ ?_ 0 (Nat.zero_le _)
  · refine bk52_4 hT hO (by omega) ?_
    simp (disch := omega) only [forall_eq, l2, l3, l4, l9, l10, l11, l12, l20, l30, l80, l90, l99, l100, l110, l200, l240, l252, l300, l1024, l1M, nI_mul, nIle, nI_ltI, nIeq, nIx10, n10x, nI_add, nI_clamp, nIin_iff, nIinc, nIlt0, nIeq0, nIle0, nIle1, n1lt, n0lt, nIeq1, bz_0, Classical.not_not, r2]
    refine ⟨fun _ => ?_, fun c => absurd (Nat.le_refl _) c⟩
    refine ev_shown (by omega) hT (mxN_le _ hb) ?_
    exact bk52_38 hT hO hQ
  · intro k hk ih
    have b1 := hb k hk
    have b2 := mxN_le (f := fun k => S.2.1 k p) k (fun j hj => hb j (by omega))
    refine bk52_4 hT hO (by omega) ?_
    simp (disch := omega) only [forall_eq, l2, l3, l4, l9, l10, l11, l12, l20, l30, l80, l90, l99, l100, l110, l200, l240, l252, l300, l1024, l1M, nI_mul, nIle, nI_ltI, nIeq, nIx10, n10x, nI_add, nI_clamp, nIin_iff, nIinc, nIlt0, nIeq0, nIle0, nIle1, n1lt, n0lt, nIeq1, bz_0, Classical.not_not, r2, r3 k hk p hp]
    refine ⟨fun c => by omega, fun _ => ⟨by omega, ?_⟩⟩
    have e : (if mxN (fun k => S.2.1 k p) k < S.2.1 k p then nI (S.2.1 k p) else nI (mxN (fun k => S.2.1 k p) k)) = nI (mxN (fun k => S.2.1 k p) (k + 1)) := by
      show _ = nI (if mxN (fun k => S.2.1 k p) k < S.2.1 k p then S.2.1 k p else mxN (fun k => S.2.1 k p) k)
      split <;> rfl
    rw [e]
    exact ih
theorem ev_isAbove {k : Nat} (hd : 1 ≤ d) (hT : mWT m) (hO : m.1 c = some (.inr 3) ∧ c ≠ 0) (hR : cvR m c P S) (hok : cvOk S) (hP : P ≤ 10) (h200 : S.1 ≤ 200) (hk : k < S.1) (hA : m.1 r = some (.inl (.int, lr)) ∧ r ≠ 0) (hl : 10 ≤ lr) (hr : ∀ p, p < 10 → m.2.2.1 r p = nI (gl p)) (hg : ∀ p, gl p ≤ 99) (hQ : Q (some (.int (bz (leP P gl (S.2.1 k))))) m) : mEv d 55 [.ref c, .int (nI k), .ref r] m Q := by
  obtain ⟨r1, r2, r3, r4, r5⟩ := id hR
  refine mEv.at (by omega) G55 (Nat.le_of_ble_eq_true rfl) ?_
  refine bk55_0 hT hO hA ?_
  refine upto (e := P) (X := fun p => (∀ q, q < p → gl q ≤ S.2.1 k q) → mEs (d - 1) 55 _ g55 (2, [some (.ref c), some (.int (nI k)), some (.ref r), some (.int (nI p))], [], m) Q) ?_ ?_ 0 (Nat.zero_le _) (fun q hq => absurd hq (Nat.not_lt_zero _))
  · intro hq
    refine bk55_2 hT hO hA ?_
    simp (disch := omega) only [forall_eq, l2, l3, l4, l9, l10, l11, l12, l20, l30, l80, l90, l99, l100, l110, l200, l240, l252, l300, l1024, l1M, nI_mul, nIle, nI_ltI, nIeq, nIx10, n10x, nI_add, nI_clamp, nIin_iff, nIinc, nIlt0, nIeq0, nIle0, nIle1, n1lt, n0lt, nIeq1, bz_0, Classical.not_not, r1]
    rw [bz_t (show leP P gl (S.2.1 k) from hq)] at hQ
    exact ⟨fun _ => hQ, fun c => absurd (Nat.le_refl _) c⟩
  · intro p hp ih hq
    have a1 := hok.2.2.2.1 k p hk
    have a2 := hg p
    refine bk55_2 hT hO hA ?_
    simp (disch := omega) only [forall_eq, l2, l3, l4, l9, l10, l11, l12, l20, l30, l80, l90, l99, l100, l110, l200, l240, l252, l300, l1024, l1M, nI_mul, nIle, nI_ltI, nIeq, nIx10, n10x, nI_add, nI_clamp, nIin_iff, nIinc, nIlt0, nIeq0, nIle0, nIle1, n1lt, n0lt, nIeq1, bz_0, Classical.not_not, r1, r3 k hk p hp, hr p (by omega)]
    refine ⟨fun c => by omega, fun _ => ⟨by omega, by omega, fun c2 => ih ?_, fun c2 => ?_⟩⟩
    · intro q hq'
      by_cases e : q = p
      · rw [e]; exact c2
      · exact hq q (by omega)
    · rw [bz_f (C := leP P gl (S.2.1 k)) (fun z => c2 (z p hp))] at hQ; exact hQ
theorem ev_leastAbove (hd : 2 ≤ d) (hT : mWT m) (hC : covC m c P T tk S) (hP : P ≤ 10) (h200 : S.1 ≤ 200) (hA : m.1 r = some (.inl (.int, lr)) ∧ r ≠ 0) (hl : 10 ≤ lr) (hr : ∀ p, p < 10 → m.2.2.1 r p = nI (gl p)) (hg : ∀ p, gl p ≤ 99)
    (hQ1 : ∀ k, k < S.1 → leP P gl (S.2.1 k) → (∀ j, j < k → ¬ leP P gl (S.2.1 j)) → Q (some (.int (nI k))) m) (hQ2 : (∀ k, k < S.1 → ¬ leP P gl (S.2.1 k)) → Q (some (.int (-3))) m) : mEv d 54 [.ref c, .ref r] m Q := by
  obtain ⟨hO, hok, h7, h | ⟨_, h2, hR, hE⟩⟩ := id hC
  · omega
  obtain ⟨r1, r2, r3, r4, r5⟩ := id hR
  refine mEv.at (by omega) G54 (Nat.le_of_ble_eq_true rfl) ?_
  refine bk54_0 hT hO hA ?_
  refine upto (e := S.1) (X := fun k => (∀ j, j < k → ¬ leP P gl (S.2.1 j)) → mEs (d - 1) 54 _ g54 (2, [some (.ref c), some (.ref r), some (.int (nI k))], [], m) Q) ?_ ?_ 0 (Nat.zero_le _) (fun q hq => absurd hq (Nat.not_lt_zero _))
  · intro hq
    refine bk54_2 hT hO hA ?_
    simp (disch := omega) only [forall_eq, l2, l3, l4, l9, l10, l11, l12, l20, l30, l80, l90, l99, l100, l110, l200, l240, l252, l300, l1024, l1M, nI_mul, nIle, nI_ltI, nIeq, nIx10, n10x, nI_add, nI_clamp, nIin_iff, nIinc, nIlt0, nIeq0, nIle0, nIle1, n1lt, n0lt, nIeq1, bz_0, Classical.not_not, r2]
    exact ⟨fun _ => hQ2 hq, fun c => absurd (Nat.le_refl _) c⟩
  · intro k hk ih hq
    refine bk54_2 hT hO hA ?_
    simp (disch := omega) only [forall_eq, l2, l3, l4, l9, l10, l11, l12, l20, l30, l80, l90, l99, l100, l110, l200, l240, l252, l300, l1024, l1M, nI_mul, nIle, nI_ltI, nIeq, nIx10, n10x, nI_add, nI_clamp, nIin_iff, nIinc, nIlt0, nIeq0, nIle0, nIle1, n1lt, n0lt, nIeq1, bz_0, Classical.not_not, r2]
    refine ⟨fun c => by omega, fun _ => ?_⟩
    refine ev_isAbove (by omega) hT hO hR hok hP h200 hk hA hl hr hg ?_
    refine bk54_16 hT hO hA ?_
    simp (disch := omega) only [forall_eq, l2, l3, l4, l9, l10, l11, l12, l20, l30, l80, l90, l99, l100, l110, l200, l240, l252, l300, l1024, l1M, nI_mul, nIle, nI_ltI, nIeq, nIx10, n10x, nI_add, nI_clamp, nIin_iff, nIinc, nIlt0, nIeq0, nIle0, nIle1, n1lt, n0lt, nIeq1, bz_0, Classical.not_not]
    refine ⟨fun c2 => ih ?_, fun c2 => hQ1 k hk c2 hq⟩
    intro j hj
    by_cases e : j = k
    · rw [e]; exact c2
    · exact hq j (by omega)
theorem ev_countAbove (hd : 2 ≤ d) (hT : mWT m) (hC : covC m c P T tk S) (hP : P ≤ 10) (h200 : S.1 ≤ 200) (hA : m.1 r = some (.inl (.int, lr)) ∧ r ≠ 0) (hl : 10 ≤ lr) (hr : ∀ p, p < 10 → m.2.2.1 r p = nI (gl p)) (hg : ∀ p, gl p ≤ 99)
    (hQ : Q (some (.int (nI (cct (fun k => leP P gl (S.2.1 k)) S.1)))) m) : mEv d 56 [.ref c, .ref r] m Q := by
  obtain ⟨hO, hok, h7, h | ⟨_, h2, hR, hE⟩⟩ := id hC
  · omega
  obtain ⟨r1, r2, r3, r4, r5⟩ := id hR
  refine mEv.at (by omega) G56 (Nat.le_of_ble_eq_true rfl) ?_
  refine bk56_0 hT hO hA ?_
  refine upto (e := S.1) (X := fun k => mEs (d - 1) 56 _ g56 (4, [some (.ref c), some (.ref r), some (.int (nI (cct (fun k => leP P gl (S.2.1 k)) k))), some (.int (nI k))], [], m) Q) ?_ ?_ 0 (Nat.zero_le _)
  · refine bk56_4 hT hO hA ?_
    simp (disch := omega) only [forall_eq, l2, l3, l4, l9, l10, l11, l12, l20, l30, l80, l90, l99, l100, l110, l200, l240, l252, l300, l1024, l1M, nI_mul, nIle, nI_ltI, nIeq, nIx10, n10x, nI_add, nI_clamp, nIin_iff, nIinc, nIlt0, nIeq0, nIle0, nIle1, n1lt, n0lt, nIeq1, bz_0, Classical.not_not, r2]
    exact ⟨fun _ => hQ, fun c => absurd (Nat.le_refl _) c⟩
  · intro k hk ih
    refine bk56_4 hT hO hA ?_
    simp (disch := omega) only [forall_eq, l2, l3, l4, l9, l10, l11, l12, l20, l30, l80, l90, l99, l100, l110, l200, l240, l252, l300, l1024, l1M, nI_mul, nIle, nI_ltI, nIeq, nIx10, n10x, nI_add, nI_clamp, nIin_iff, nIinc, nIlt0, nIeq0, nIle0, nIle1, n1lt, n0lt, nIeq1, bz_0, Classical.not_not, r2]
    refine ⟨fun c => by omega, fun _ => ?_⟩
    refine ev_isAbove (by omega) hT hO hR hok hP h200 hk hA hl hr hg ?_
    refine bk56_18 hT hO hA ?_
    simp (disch := omega) only [forall_eq, l2, l3, l4, l9, l10, l11, l12, l20, l30, l80, l90, l99, l100, l110, l200, l240, l252, l300, l1024, l1M, nI_mul, nIle, nI_ltI, nIeq, nIx10, n10x, nI_add, nI_clamp, nIin_iff, nIinc, nIlt0, nIeq0, nIle0, nIle1, n1lt, n0lt, nIeq1, bz_0, Classical.not_not]
    refine ⟨fun c2 => ?_, fun c2 => ?_⟩
    · rw [cct_f (C := fun k => leP P gl (S.2.1 k)) c2] at ih; exact ih
    · rw [cct_t (C := fun k => leP P gl (S.2.1 k)) c2] at ih; exact ih
end CCV3
