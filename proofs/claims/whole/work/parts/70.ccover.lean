/-! The class Cover: contracts. -/
/-- rows of nodes as they lie in the class -/
def cvR (m : mMem) (c P : Nat) (S : cvS) : Prop := iF m c 7 = nI P ∧ iF m c 1 = nI S.1 ∧ (∀ k, k < S.1 → ∀ p, p < P → m.2.2.1 (64 * c + 1) (k * 10 + p) = nI (S.2.1 k p)) ∧ (∀ k, k < S.1 → m.2.2.1 (64 * c + 2) k = oI S.2.2.1 k) ∧ (∀ k, k < S.1 → m.2.2.1 (64 * c + 3) k = oI S.2.2.2 k)
section CCV
variable {d c n P T a b r lr : Nat} {tk pt : Nat → Nat → Nat} {fi mk va vb : Nat → Nat} {S : cvS} {m : mMem} {Q : Option Value → mMem → Prop}
theorem ev_cvSame (hd : 1 ≤ d) (hT : mWT m) (hO : m.1 c = some (.inr 3) ∧ c ≠ 0) (h7 : iF m c 7 = nI P) (hP : P ≤ 10) (ha : a < 200) (hb : b < 200) (hva : ∀ p, p < P → m.2.2.1 (64 * c + 1) (a * 10 + p) = nI (va p)) (hvb : ∀ p, p < P → m.2.2.1 (64 * c + 1) (b * 10 + p) = nI (vb p)) (hva2 : ∀ p, va p ≤ 1000000) (hvb2 : ∀ p, vb p ≤ 1000000) (hQ : Q (some (.int (bz (∀ p, p < P → va p = vb p)))) m) : mEv d 43 [.ref c, .int (nI a), .int (nI b)] m Q := by
  refine mEv.at (by omega) G43 (Nat.le_of_ble_eq_true rfl) ?_
  refine bk43_0 hT hO ?_
  refine upto (e := P) (X := fun p => (∀ q, q < p → va q = vb q) → mEs (d - 1) 43 _ g43 (2, [some (.ref c), some (.int (nI a)), some (.int (nI b)), some (.int (nI p))], [], m) Q) ?_ ?_ 0 (Nat.zero_le _) (fun q hq => absurd hq (Nat.not_lt_zero _))
  · intro hq
    refine bk43_2 hT hO ?_
    simp (disch := omega) only [forall_eq, l2, l3, l4, l9, l10, l11, l12, l20, l30, l80, l90, l99, l100, l110, l200, l240, l252, l300, l1024, l1M, nI_mul, nIle, nI_ltI, nIeq, nIx10, n10x, nI_add, nI_clamp, nIin_iff, nIinc, nIlt0, nIeq0, nIle0, nIle1, n1lt, n0lt, nIeq1, bz_0, Classical.not_not, h7]
    rw [bz_t hq] at hQ
    exact ⟨fun _ => hQ, fun c => absurd (Nat.le_refl _) c⟩
  · intro p hp ih hq
    have a1 := hva2 p
    have a2 := hvb2 p
    refine bk43_2 hT hO ?_
    simp (disch := omega) only [forall_eq, l2, l3, l4, l9, l10, l11, l12, l20, l30, l80, l90, l99, l100, l110, l200, l240, l252, l300, l1024, l1M, nI_mul, nIle, nI_ltI, nIeq, nIx10, n10x, nI_add, nI_clamp, nIin_iff, nIinc, nIlt0, nIeq0, nIle0, nIle1, n1lt, n0lt, nIeq1, bz_0, Classical.not_not, h7, hva p hp, hvb p hp]
    refine ⟨fun c => by omega, fun _ => ⟨by omega, by omega, fun c2 => ih ?_, fun c2 => ?_⟩⟩
    · intro q hq'
      by_cases e : q = p
      · rw [e]; exact c2
      · exact hq q (by omega)
    · rw [bz_f (fun z => c2 (z p hp))] at hQ; exact hQ
theorem ev_cvOld {i : Nat} (hd : 2 ≤ d) (hT : mWT m) (hO : m.1 c = some (.inr 3) ∧ c ≠ 0) (hR : cvR m c P S) (hok : cvOk S) (hP : P ≤ 10) (hi : i < S.1) (h200 : S.1 ≤ 200) (hQ : Q (some (.int (bz (oldS P S.2.1 i)))) m) : mEv d 42 [.ref c, .int (nI i)] m Q := by
  obtain ⟨r1, r2, r3, r4, r5⟩ := id hR
  have hb : ∀ k, k < S.1 → ∀ p, S.2.1 k p ≤ 1000000 := fun k hk p => by have := hok.2.2.2.1 k p hk; omega
  refine mEv.at (by omega) G42 (Nat.le_of_ble_eq_true rfl) ?_
  refine bk42_0 hT hO ?_
  refine upto (e := i) (X := fun j => (∀ q, q < j → ¬ ∀ p, p < P → S.2.1 i p = S.2.1 q p) → mEs (d - 1) 42 _ g42 (2, [some (.ref c), some (.int (nI i)), some (.int (nI j))], [], m) Q) ?_ ?_ 0 (Nat.zero_le _) (fun q hq => absurd hq (Nat.not_lt_zero _))
  · intro hq
    refine bk42_2 hT hO ?_
    simp (disch := omega) only [forall_eq, l2, l3, l4, l9, l10, l11, l12, l20, l30, l80, l90, l99, l100, l110, l200, l240, l252, l300, l1024, l1M, nI_mul, nIle, nI_ltI, nIeq, nIx10, n10x, nI_add, nI_clamp, nIin_iff, nIinc, nIlt0, nIeq0, nIle0, nIle1, n1lt, n0lt, nIeq1, bz_0, Classical.not_not]
    rw [bz_f (fun ⟨j, h1, h2⟩ => hq j h1 h2)] at hQ
    exact ⟨fun _ => hQ, fun c => absurd (Nat.le_refl _) c⟩
  · intro j hj ih hq
    refine bk42_2 hT hO ?_
    simp (disch := omega) only [forall_eq, l2, l3, l4, l9, l10, l11, l12, l20, l30, l80, l90, l99, l100, l110, l200, l240, l252, l300, l1024, l1M, nI_mul, nIle, nI_ltI, nIeq, nIx10, n10x, nI_add, nI_clamp, nIin_iff, nIinc, nIlt0, nIeq0, nIle0, nIle1, n1lt, n0lt, nIeq1, bz_0, Classical.not_not]
    refine ⟨fun c => by omega, fun _ => ?_⟩
    refine ev_cvSame (va := S.2.1 i) (vb := S.2.1 j) (by omega) hT hO r1 hP (by omega) (by omega) (r3 i hi) (r3 j (by omega)) (hb i hi) (hb j (by omega)) ?_
    refine bk42_13 hT hO ?_
    simp (disch := omega) only [forall_eq, l2, l3, l4, l9, l10, l11, l12, l20, l30, l80, l90, l99, l100, l110, l200, l240, l252, l300, l1024, l1M, nI_mul, nIle, nI_ltI, nIeq, nIx10, n10x, nI_add, nI_clamp, nIin_iff, nIinc, nIlt0, nIeq0, nIle0, nIle1, n1lt, n0lt, nIeq1, bz_0, Classical.not_not]
    refine ⟨fun c2 => ih ?_, fun c2 => ?_⟩
    · intro q hq'
      by_cases e : q = j
      · rw [e]; exact c2
      · exact hq q (by omega)
    · rw [bz_t ⟨j, hj, c2⟩] at hQ; exact hQ
theorem ev_cvEn {i t : Nat} (hd : 1 ≤ d) (hT : mWT m) (hO : m.1 c = some (.inr 3) ∧ c ≠ 0) (hN : cNet m n P T tk pt fi) (hk : okNet P T tk pt fi) (hR : cvR m c P S) (hok : cvOk S) (hi : i < S.1) (h200 : S.1 ≤ 200) (ht : t < 10) (hQ : Q (some (.int (bz (enS P tk (S.2.1 i) t)))) m) : mEv d 45 [.ref c, .ref n, .int (nI i), .int (nI t)] m Q := by
  obtain ⟨r1, r2, r3, r4, r5⟩ := id hR
  obtain ⟨hO2, hP, hTr, htk, hpt, hfi⟩ := id hN
  have hP10 := hk.1
  refine mEv.at (by omega) G45 (Nat.le_of_ble_eq_true rfl) ?_
  refine bk45_0 hT hO hO2 ?_
  refine upto (e := P) (X := fun p => (∀ q, q < p → tk t q ≤ S.2.1 i q) → mEs (d - 1) 45 _ g45 (3, [some (.ref c), some (.ref n), some (.int (nI i)), some (.int (nI t)), some (.int (nI p))], [], m) Q) ?_ ?_ 0 (Nat.zero_le _) (fun q hq => absurd hq (Nat.not_lt_zero _))
  · intro hq
    refine bk45_3 hT hO hO2 ?_
    simp (disch := omega) only [forall_eq, l2, l3, l4, l9, l10, l11, l12, l20, l30, l80, l90, l99, l100, l110, l200, l240, l252, l300, l1024, l1M, nI_mul, nIle, nI_ltI, nIeq, nIx10, n10x, nI_add, nI_clamp, nIin_iff, nIinc, nIlt0, nIeq0, nIle0, nIle1, n1lt, n0lt, nIeq1, bz_0, Classical.not_not, r1]
    rw [bz_t (show enS P tk (S.2.1 i) t from hq)] at hQ
    exact ⟨fun _ => hQ, fun c => absurd (Nat.le_refl _) c⟩
  · intro p hp ih hq
    have a1 := hok.2.2.2.1 i p hi
    have a2 := hk.2.2.1 t p
    refine bk45_3 hT hO hO2 ?_
    simp (disch := omega) only [forall_eq, l2, l3, l4, l9, l10, l11, l12, l20, l30, l80, l90, l99, l100, l110, l200, l240, l252, l300, l1024, l1M, nI_mul, nIle, nI_ltI, nIeq, nIx10, n10x, nI_add, nI_clamp, nIin_iff, nIinc, nIlt0, nIeq0, nIle0, nIle1, n1lt, n0lt, nIeq1, bz_0, Classical.not_not, r1, r3 i hi p hp, htk t ht p (by omega)]
    refine ⟨fun c => by omega, fun _ => ⟨by omega, by omega, fun c2 => ih ?_, fun c2 => ?_⟩⟩
    · intro q hq'
      by_cases e : q = p
      · rw [e]; exact c2
      · exact hq q (by omega)
    · rw [bz_f (C := enS P tk (S.2.1 i) t) (fun z => c2 (z p hp))] at hQ; exact hQ
theorem ev_cvIn (hd : 1 ≤ d) (hT : mWT m) (hO : m.1 c = some (.inr 3) ∧ c ≠ 0) (h7 : iF m c 7 = nI P) (hP : P ≤ 10) (ha : a < 200) (hb : b < 200) (hva : ∀ p, p < P → m.2.2.1 (64 * c + 1) (a * 10 + p) = nI (va p)) (hvb : ∀ p, p < P → m.2.2.1 (64 * c + 1) (b * 10 + p) = nI (vb p)) (hva2 : ∀ p, va p ≤ 1000000) (hvb2 : ∀ p, vb p ≤ 1000000) (hQ : Q (some (.int (bz (leP P va vb)))) m) : mEv d 47 [.ref c, .int (nI a), .int (nI b)] m Q := by
  refine mEv.at (by omega) G47 (Nat.le_of_ble_eq_true rfl) ?_
  refine bk47_0 hT hO ?_
  refine upto (e := P) (X := fun p => (∀ q, q < p → va q ≤ vb q) → mEs (d - 1) 47 _ g47 (2, [some (.ref c), some (.int (nI a)), some (.int (nI b)), some (.int (nI p))], [], m) Q) ?_ ?_ 0 (Nat.zero_le _) (fun q hq => absurd hq (Nat.not_lt_zero _))
  · intro hq
    refine bk47_2 hT hO ?_
    simp (disch := omega) only [forall_eq, l2, l3, l4, l9, l10, l11, l12, l20, l30, l80, l90, l99, l100, l110, l200, l240, l252, l300, l1024, l1M, nI_mul, nIle, nI_ltI, nIeq, nIx10, n10x, nI_add, nI_clamp, nIin_iff, nIinc, nIlt0, nIeq0, nIle0, nIle1, n1lt, n0lt, nIeq1, bz_0, Classical.not_not, h7]
    rw [bz_t (show leP P va vb from hq)] at hQ
    exact ⟨fun _ => hQ, fun c => absurd (Nat.le_refl _) c⟩
  · intro p hp ih hq
    have a1 := hva2 p
    have a2 := hvb2 p
    refine bk47_2 hT hO ?_
    simp (disch := omega) only [forall_eq, l2, l3, l4, l9, l10, l11, l12, l20, l30, l80, l90, l99, l100, l110, l200, l240, l252, l300, l1024, l1M, nI_mul, nIle, nI_ltI, nIeq, nIx10, n10x, nI_add, nI_clamp, nIin_iff, nIinc, nIlt0, nIeq0, nIle0, nIle1, n1lt, n0lt, nIeq1, bz_0, Classical.not_not, h7, hva p hp, hvb p hp]
    refine ⟨fun c => by omega, fun _ => ⟨by omega, by omega, fun c2 => ih ?_, fun c2 => ?_⟩⟩
    · intro q hq'
      by_cases e : q = p
      · rw [e]; exact c2
      · exact hq q (by omega)
    · rw [bz_f (C := leP P va vb) (fun z => c2 (z p hp))] at hQ; exact hQ
theorem ev_raise (hd : 1 ≤ d) (hT : mWT m) (hO : m.1 c = some (.inr 3) ∧ c ≠ 0) (h7 : iF m c 7 = nI P) (hP : P ≤ 10) (ha : a < 200) (hb : b < 200) (hab : a < b) (hva : ∀ p, p < P → m.2.2.1 (64 * c + 1) (a * 10 + p) = nI (va p)) (hvb : ∀ p, p < P → m.2.2.1 (64 * c + 1) (b * 10 + p) = nI (vb p)) (hva2 : ∀ p, va p ≤ 1000000) (hvb2 : ∀ p, vb p ≤ 1000000)
    (hQ : ∀ m', mTo (fun k => k = 64 * c + 1) (fun _ _ => False) m m' → (∀ j, j < b * 10 → m'.2.2.1 (64 * c + 1) j = m.2.2.1 (64 * c + 1) j) → (∀ p, p < P → m'.2.2.1 (64 * c + 1) (b * 10 + p) = nI (if va p < vb p then 1000000 else vb p)) → Q none m') : mEv d 48 [.ref c, .int (nI a), .int (nI b)] m Q := by
  refine mEv.at (by omega) G48 (Nat.le_of_ble_eq_true rfl) ?_
  refine bk48_0 hT hO ?_
  refine upto (e := P) (X := fun p => ∀ m', mTo (fun k => k = 64 * c + 1) (fun _ _ => False) m m' → (∀ j, j < b * 10 → m'.2.2.1 (64 * c + 1) j = m.2.2.1 (64 * c + 1) j) → (∀ q, q < P → m'.2.2.1 (64 * c + 1) (b * 10 + q) = nI (if q < p ∧ va q < vb q then 1000000 else vb q)) → mEs (d - 1) 48 _ g48 (2, [some (.ref c), some (.int (nI a)), some (.int (nI b)), some (.int (nI p))], [], m') Q) ?_ ?_ 0 (Nat.zero_le _) m (mTo.rf hT) (fun _ _ => rfl) (fun q hq => by rw [if_neg (by omega)]; exact hvb q hq)
  · intro m' T' y1 y2
    refine bk48_2 T'.wt (T'.ob hO) ?_
    rw [T'.nf id, h7]
    simp (disch := omega) only [forall_eq, l2, l3, l4, l9, l10, l11, l12, l20, l30, l80, l90, l99, l100, l110, l200, l240, l252, l300, l1024, l1M, nI_mul, nIle, nI_ltI, nIeq, nIx10, n10x, nI_add, nI_clamp, nIin_iff, nIinc, nIlt0, nIeq0, nIle0, nIle1, n1lt, n0lt, nIeq1, bz_0, Classical.not_not]
    refine ⟨fun _ => hQ m' T' y1 (fun p hp => ?_), fun c => absurd (Nat.le_refl _) c⟩
    rw [y2 p hp]
    by_cases e : va p < vb p
    · rw [if_pos e, if_pos ⟨hp, e⟩]
    · rw [if_neg e, if_neg (fun z => e z.2)]
  · intro p hp ih m' T' y1 y2
    have a1 := hva2 p
    have a2 := hvb2 p
    have e1 : m'.2.2.1 (64 * c + 1) (a * 10 + p) = nI (va p) := by rw [y1 _ (by omega)]; exact hva p hp
    have e2 : m'.2.2.1 (64 * c + 1) (b * 10 + p) = nI (vb p) := by rw [y2 p hp, if_neg (by omega)]
    refine bk48_2 T'.wt (T'.ob hO) ?_
    rw [T'.nf id, h7]
    simp (disch := omega) only [forall_eq, l2, l3, l4, l9, l10, l11, l12, l20, l30, l80, l90, l99, l100, l110, l200, l240, l252, l300, l1024, l1M, nI_mul, nIle, nI_ltI, nIeq, nIx10, n10x, nI_add, nI_clamp, nIin_iff, nIinc, nIlt0, nIeq0, nIle0, nIle1, n1lt, n0lt, nIeq1, bz_0, Classical.not_not, e1, e2]
    refine ⟨fun c => by omega, fun _ => ⟨by omega, by omega, fun c2 => ?_, fun c2 => ⟨by omega, ?_⟩⟩⟩
    · refine ih m' T' y1 (fun q hq => ?_)
      rw [y2 q hq]
      by_cases e : q = p
      · subst e; rw [if_neg (by omega), if_neg (by omega)]
      · by_cases e3 : va q < vb q
        · by_cases e4 : q < p
          · rw [if_pos ⟨e4, e3⟩, if_pos ⟨by omega, e3⟩]
          · rw [if_neg (fun z => e4 z.1), if_neg (by omega)]
        · rw [if_neg (fun z => e3 z.2), if_neg (fun z => e3 z.2)]
    · refine ih _ (T'.sI rfl) (fun j hj => ?_) (fun q hq => ?_)
      · rw [rdI_same, up_n (by omega)]; exact y1 j hj
      · rw [rdI_same]
        by_cases e : q = p
        · subst e; rw [up_s, if_pos ⟨by omega, by omega⟩]
        · rw [up_n (by omega), y2 q hq]
          by_cases e3 : va q < vb q
          · by_cases e4 : q < p
            · rw [if_pos ⟨e4, e3⟩, if_pos ⟨by omega, e3⟩]
            · rw [if_neg (fun z => e4 z.1), if_neg (by omega)]
          · rw [if_neg (fun z => e3 z.2), if_neg (fun z => e3 z.2)]
def cvA (c k : Nat) : Prop := k = 64 * c + 1 ∨ k = 64 * c + 2 ∨ k = 64 * c + 3
def cvFl (c k f : Nat) : Prop := k = c ∧ f = 1
theorem ev_cvAdd {i t : Nat} (hd : 2 ≤ d) (hT : mWT m) (hO : m.1 c = some (.inr 3) ∧ c ≠ 0) (hN : cNet m n P T tk pt fi) (hk : okNet P T tk pt fi) (hnc : n ≠ c) (hR : cvR m c P S) (hok : cvOk S) (hi : i < S.1) (h200 : S.1 < 200) (ht : t < 10) (hen : enS P tk (S.2.1 i) t)
    (hQ : ∀ m', mTo (cvA c) (cvFl c) m m' → cvR m' c P (cvAdd P tk pt S i t) → Q none m') : mEv d 46 [.ref c, .ref n, .int (nI i), .int (nI t)] m Q := by
  obtain ⟨r1, r2, r3, r4, r5⟩ := id hR
  obtain ⟨o1, o2, o3, o4, o5⟩ := id hok
  have hP10 := hk.1
  have hb : ∀ k, k < S.1 → ∀ p, S.2.1 k p ≤ 1000000 := fun k hk p => by have := o4 k p hk; omega
  refine mEv.at (by omega) G46 (Nat.le_of_ble_eq_true rfl) ?_
  refine bk46_0 hT hO hN.1 ?_
  -- behind the rows: back to node 0
  have back : ∀ f k st (r : Nat → Nat) (m' : mMem), k < f → k < S.1 → st + k ≤ i → (∀ p, r p ≤ 1000000) → mTo (cvA c) (cvFl c) m m' → iF m' c 1 = nI S.1 → (∀ j, j < S.1 * 10 → m'.2.2.1 (64 * c + 1) j = m.2.2.1 (64 * c + 1) j) → (∀ k, k < S.1 + 1 → m'.2.2.1 (64 * c + 2) k = oI (updN S.2.2.1 S.1 i) k) → (∀ k, k < S.1 + 1 → m'.2.2.1 (64 * c + 3) k = oI (updN S.2.2.2 S.1 t) k) → (∀ p, p < P → m'.2.2.1 (64 * c + 1) (S.1 * 10 + p) = nI (r p)) → (∀ p, p < P → cvUp P S.2.1 S.2.2.1 f k r p = cvUp P S.2.1 S.2.2.1 (i + 1) i (cvRow tk pt (S.2.1 i) t) p) → mEs (d - 1) 46 c g46 (95, [some (.ref c), some (.ref n), some (.int (nI i)), some (.int (nI t)), some (.int (nI k)), some (.int (nI st))], [], m') Q := by
    intro f
    induction f with
    | zero => intro k st r m' h; omega
    | succ f ih =>
      intro k st r m' hkf hkS hst hr T' y1 yA y2 y3 yr eU
      have hva : ∀ p, p < P → m'.2.2.1 (64 * c + 1) (k * 10 + p) = nI (S.2.1 k p) := fun p hp => by rw [yA _ (by omega)]; exact r3 k hkS p hp
      have z7 : iF m' c 7 = nI P := by rw [T'.nf (by unfold cvFl; omega)]; exact r1
      have hgb : ∀ p, cvGr P (S.2.1 k) r p ≤ 1000000 := fun p => by have := cvGr_b (P := P) (a := S.2.1 k) (r := r) (M := 1000000) (fun p => Or.inr (hr p)) p; omega
      refine bk46_95 T'.wt (T'.ob hO) (T'.ob hN.1) ?_
      rw [y1]
      refine ⟨fun cc => absurd ((nIle (a := 200) (by omega) (by omega)).mp cc) (by omega), fun _ => ⟨fun cc => absurd cc (neg1_ne (by omega)), fun _ => ?_⟩⟩
      -- what comes behind this node's turn
      have nxt : ∀ (m2 : mMem), mTo (cvA c) (cvFl c) m m2 → iF m2 c 1 = nI S.1 → (∀ j, j < S.1 * 10 → m2.2.2.1 (64 * c + 1) j = m.2.2.1 (64 * c + 1) j) → (∀ k, k < S.1 + 1 → m2.2.2.1 (64 * c + 2) k = oI (updN S.2.2.1 S.1 i) k) → (∀ k, k < S.1 + 1 → m2.2.2.1 (64 * c + 3) k = oI (updN S.2.2.2 S.1 t) k) → (∀ p, p < P → m2.2.2.1 (64 * c + 1) (S.1 * 10 + p) = nI (cvGr P (S.2.1 k) r p)) → mEs (d - 1) 46 c g46 (132, [some (.ref c), some (.ref n), some (.int (nI i)), some (.int (nI t)), some (.int (nI k)), some (.int (nI st))], [], m2) Q := by
        intro m2 T2 x1 xA x2 x3 xr
        refine bk46_132 T2.wt (T2.ob hO) (T2.ob hN.1) ?_
        have e2 : m2.2.2.1 (64 * c + 2) k = oI S.2.2.1 k := by rw [x2 k (by omega), oI_up (by omega)]
        simp (disch := omega) only [forall_eq, l2, l3, l4, l9, l10, l11, l12, l20, l30, l80, l90, l99, l100, l110, l200, l240, l252, l300, l1024, l1M, nI_mul, nIle, nI_ltI, nIeq, nIx10, n10x, nI_add, nI_clamp, nIin_iff, nIinc, nIlt0, nIeq0, nIle0, nIle1, n1lt, n0lt, nIeq1, bz_0, Classical.not_not, e2]
        refine ⟨by omega, ?_⟩
        by_cases ek : k = 0
        · subst ek
          rw [oI_0]
          refine bk46_95 T2.wt (T2.ob hO) (T2.ob hN.1) ?_
          have fin : Q none (mSetF m2 c 1 (.int (iF m2 c 1 + 1))) := by
            rw [x1, nIinc]
            refine hQ _ (T2.sF hO ⟨rfl, rfl⟩ (by decide)) ⟨?_, iF_s, ?_, x2, x3⟩
            · rw [iF_nf (by decide), T2.nf (by unfold cvFl; omega)]; exact r1
            · intro k hk' p hp
              have hk2 : k < S.1 + 1 := hk'
              show m2.2.2.1 (64 * c + 1) (k * 10 + p) = nI ((if k = S.1 then cvUp P S.2.1 S.2.2.1 (i + 1) i (cvRow tk pt (S.2.1 i) t) else S.2.1 k) p)
              by_cases e : k = S.1
              · subst e
                rw [if_pos rfl, xr p hp, ← eU p hp]
                rfl
              · rw [if_neg e, xA _ (by omega)]; exact r3 k (by omega) p hp
          exact ⟨fun _ m3 e => by rw [e]; exact fin, fun _ => ⟨fun _ m3 e => by rw [e]; exact fin, fun cc => absurd rfl cc⟩⟩
        · rw [oI_n ek]
          have hog := o3 k (by omega) hkS
          refine ih (S.2.2.1 k) (st + 1) (cvGr P (S.2.1 k) r) m2 (by omega) (by omega) (by omega) hgb T2 x1 xA x2 x3 xr (fun p hp => ?_)
          rw [← eU p hp]
          show _ = (if k = 0 then cvGr P (S.2.1 0) r else cvUp P S.2.1 S.2.2.1 f (S.2.2.1 k) (cvGr P (S.2.1 k) r)) p
          rw [if_neg ek]
      refine ev_cvIn (va := S.2.1 k) (vb := r) (by omega) T'.wt (T'.ob hO) z7 hP10 (by omega) (by omega) hva yr (hb k hkS) hr ?_
      refine bk46_119 T'.wt (T'.ob hO) (T'.ob hN.1) ?_
      rw [bz_0, y1]
      refine ⟨fun cc => ?_, fun cc => ?_⟩
      · refine nxt m' T' y1 yA y2 y3 (fun p hp => ?_)
        unfold cvGr
        rw [cif_f cc]; exact yr p hp
      · refine ev_raise (va := S.2.1 k) (vb := r) (by omega) T'.wt (T'.ob hO) z7 hP10 (by omega) (by omega) hkS hva yr (hb k hkS) hr ?_
        intro m2 T2 w1 w2
        refine nxt m2 (T'.tr (T2.mono (fun k h => Or.inl h) (fun _ _ h => h.elim))) (by rw [T2.nf id]; exact y1) (fun j hj => by rw [w1 j hj]; exact yA j hj) (by rw [T2.i (by omega)]; exact y2) (by rw [T2.i (by omega)]; exact y3) (fun p hp => ?_)
        unfold cvGr
        rw [cif_t (Classical.not_not.mp cc), w2 p hp]
        by_cases e : S.2.1 k p < r p
        · rw [if_pos e, if_pos ⟨hp, e⟩]
        · rw [if_neg e, if_neg (fun z => e z.2)]
  refine upto (e := P) (X := fun p => ∀ (o5 : Option Value) (m' : mMem), mTo (fun k => k = 64 * c + 1) (fun _ _ => False) m m' → (∀ j, j < S.1 * 10 → m'.2.2.1 (64 * c + 1) j = m.2.2.1 (64 * c + 1) j) → (∀ q, q < p → m'.2.2.1 (64 * c + 1) (S.1 * 10 + q) = nI (cvRow tk pt (S.2.1 i) t q)) → mEs (d - 1) 46 _ g46 (3, [some (.ref c), some (.ref n), some (.int (nI i)), some (.int (nI t)), some (.int (nI p)), o5], [], m') Q) ?_ ?_ 0 (Nat.zero_le _) _ m (mTo.rf hT) (fun _ _ => rfl) (fun q hq => absurd hq (Nat.not_lt_zero _))
  · intro o5' m' T' yA yr
    have z1 : iF m' c 1 = nI S.1 := by rw [T'.nf id]; exact r2
    have z7 : iF m' c 7 = nI P := by rw [T'.nf id]; exact r1
    refine bk46_3 T'.wt (T'.ob hO) (T'.ob hN.1) ?_
    simp (disch := omega) only [forall_eq, l2, l3, l4, l9, l10, l11, l12, l20, l30, l80, l90, l99, l100, l110, l200, l240, l252, l300, l1024, l1M, nI_mul, nIle, nI_ltI, nIeq, nIx10, n10x, nI_add, nI_clamp, nIin_iff, nIinc, nIlt0, nIeq0, nIle0, nIle1, n1lt, n0lt, nIeq1, bz_0, Classical.not_not, rdI_same, rdI_ne, rI_F, rI_J, rJ_F, rJ_I, rdJ_same, rdJ_ne, iF_s, iF_nf, iF_nk, iF_I, iF_J, up_s, up_n, z1, z7]
    refine ⟨fun _ => ⟨by omega, by omega, ?_⟩, fun c => absurd (Nat.le_refl _) c⟩
    have hrb : ∀ p, cvRow tk pt (S.2.1 i) t p ≤ 1000000 := fun p => by have := cvRow_b (t := t) hk (fun p => o4 i p hi) p; omega
    refine back (i + 1) i 0 (cvRow tk pt (S.2.1 i) t) _ (Nat.lt_succ_self _) hi (by omega) hrb (((T'.mono (A' := cvA c) (F' := cvFl c) (fun k h => Or.inl h) (fun _ _ h => h.elim)).sI (Or.inr (Or.inl rfl))).sI (Or.inr (Or.inr rfl))) z1 ?_ ?_ ?_ ?_ (fun _ _ => rfl)
    · intro j hj; simp (disch := omega) only [forall_eq, l2, l3, l4, l9, l10, l11, l12, l20, l30, l80, l90, l99, l100, l110, l200, l240, l252, l300, l1024, l1M, nI_mul, nIle, nI_ltI, nIeq, nIx10, n10x, nI_add, nI_clamp, nIin_iff, nIinc, nIlt0, nIeq0, nIle0, nIle1, n1lt, n0lt, nIeq1, bz_0, Classical.not_not, rdI_same, rdI_ne, rI_F, rI_J, rJ_F, rJ_I, rdJ_same, rdJ_ne, iF_s, iF_nf, iF_nk, iF_I, iF_J, up_s, up_n]; exact yA j hj
    · intro k hk'
      simp (disch := omega) only [forall_eq, l2, l3, l4, l9, l10, l11, l12, l20, l30, l80, l90, l99, l100, l110, l200, l240, l252, l300, l1024, l1M, nI_mul, nIle, nI_ltI, nIeq, nIx10, n10x, nI_add, nI_clamp, nIin_iff, nIinc, nIlt0, nIeq0, nIle0, nIle1, n1lt, n0lt, nIeq1, bz_0, Classical.not_not, rdI_same, rdI_ne, rI_F, rI_J, rJ_F, rJ_I, rdJ_same, rdJ_ne, iF_s, iF_nf, iF_nk, iF_I, iF_J, up_s, up_n]
      by_cases e : k = S.1
      · subst e; rw [up_s, oI_n (by omega), updN_s]
      · rw [up_n e, oI_up e, T'.i (by omega)]; exact r4 k (by omega)
    · intro k hk'
      simp (disch := omega) only [forall_eq, l2, l3, l4, l9, l10, l11, l12, l20, l30, l80, l90, l99, l100, l110, l200, l240, l252, l300, l1024, l1M, nI_mul, nIle, nI_ltI, nIeq, nIx10, n10x, nI_add, nI_clamp, nIin_iff, nIinc, nIlt0, nIeq0, nIle0, nIle1, n1lt, n0lt, nIeq1, bz_0, Classical.not_not, rdI_same, rdI_ne, rI_F, rI_J, rJ_F, rJ_I, rdJ_same, rdJ_ne, iF_s, iF_nf, iF_nk, iF_I, iF_J, up_s, up_n]
      by_cases e : k = S.1
      · subst e; rw [up_s, oI_n (by omega), updN_s]
      · rw [up_n e, oI_up e, T'.i (by omega)]; exact r5 k (by omega)
    · intro p hp; simp (disch := omega) only [forall_eq, l2, l3, l4, l9, l10, l11, l12, l20, l30, l80, l90, l99, l100, l110, l200, l240, l252, l300, l1024, l1M, nI_mul, nIle, nI_ltI, nIeq, nIx10, n10x, nI_add, nI_clamp, nIin_iff, nIinc, nIlt0, nIeq0, nIle0, nIle1, n1lt, n0lt, nIeq1, bz_0, Classical.not_not, rdI_same, rdI_ne, rI_F, rI_J, rJ_F, rJ_I, rdJ_same, rdJ_ne, iF_s, iF_nf, iF_nk, iF_I, iF_J, up_s, up_n]; exact yr p hp
  · intro p hp ih o5' m' T' yA yr
    have z1 : iF m' c 1 = nI S.1 := by rw [T'.nf id]; exact r2
    have z7 : iF m' c 7 = nI P := by rw [T'.nf id]; exact r1
    have ei : m'.2.2.1 (64 * c + 1) (i * 10 + p) = nI (S.2.1 i p) := by rw [yA _ (by omega)]; exact r3 i hi p hp
    have a1 := o4 i p hi
    have a2 := hk.2.2.1 t p
    have a3 := hk.2.2.2.1 t p
    have a4 := hen p hp
    have step : ∀ (v : Nat), v = cvRow tk pt (S.2.1 i) t p → ∀ (o5 : Option Value), mEs (d - 1) 46 c g46 (3, [some (.ref c), some (.ref n), some (.int (nI i)), some (.int (nI t)), some (.int (nI (p + 1))), o5], [], mSetI m' (64 * c + 1) (upd (m'.2.2.1 (64 * c + 1)) (S.1 * 10 + p) (nI v))) Q := by
      intro v hv o5'
      refine ih _ _ (T'.sI rfl) (fun j hj => ?_) (fun q hq => ?_)
      · rw [rdI_same, up_n (by omega)]; exact yA j hj
      · rw [rdI_same]
        by_cases e : q = p
        · subst e; rw [up_s, hv]
        · rw [up_n (by omega)]; exact yr q (by omega)
    refine bk46_3 T'.wt (T'.ob hO) (T'.ob hN.1) ?_
    simp (disch := omega) only [forall_eq, l2, l3, l4, l9, l10, l11, l12, l20, l30, l80, l90, l99, l100, l110, l200, l240, l252, l300, l1024, l1M, nI_mul, nIle, nI_ltI, nIeq, nIx10, n10x, nI_add, nI_clamp, nIin_iff, nIinc, nIlt0, nIeq0, nIle0, nIle1, n1lt, n0lt, nIeq1, bz_0, Classical.not_not, z1, z7, ei]
    refine ⟨fun c => by omega, fun _ => ⟨by omega, fun c2 => ?_, fun c2 => ⟨by omega, ?_⟩⟩⟩
    · have gN := hN.to T' (by omega) (by omega) (by omega) id id
      refine ev_change (by omega) T'.wt gN (by omega) (by omega) ?_
      refine bk46_61 T'.wt (T'.ob hO) (T'.ob hN.1) (ly0 := 2000) (T'.wt.arr (T'.ob hO) 0 rfl (by decide)) ?_
      have e3 : nI (S.2.1 i p) + (nI (pt t p) - nI (tk t p)) = nI (S.2.1 i p - tk t p + pt t p) := by
        rw [← nI_add, ← pk_sub a4, Int32.sub_eq_add_neg, Int32.sub_eq_add_neg, Int32.add_assoc, Int32.add_comm (nI (pt t p))]
      rw [e3]
      simp (disch := omega) only [forall_eq, l2, l3, l4, l9, l10, l11, l12, l20, l30, l80, l90, l99, l100, l110, l200, l240, l252, l300, l1024, l1M, nI_mul, nIle, nI_ltI, nIeq, nIx10, n10x, nI_add, nI_clamp, nIin_iff, nIinc, nIlt0, nIeq0, nIle0, nIle1, n1lt, n0lt, nIeq1, bz_0, Classical.not_not]
      exact ⟨by omega, step _ (by unfold cvRow; rw [if_neg c2]) _⟩
    · exact step 1000000 (by unfold cvRow; rw [if_pos c2]) _
end CCV
