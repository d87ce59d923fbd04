/-! JDK's fill; Net: move, clear, sets of places, kinds. -/
theorem mSetI_id {m : mMem} {k : Nat} : mSetI m k (m.2.2.1 k) = m := by
  unfold mSetI
  have : mRow m.2.2.1 k (m.2.2.1 k) = m.2.2.1 := by
    funext j
    unfold mRow
    split
    · next h => rw [h]
    · rfl
  rw [this]
theorem mSetI_2 {m : mMem} {k : Nat} {f g : Nat → Int32} : mSetI (mSetI m k f) k g = mSetI m k g := by
  unfold mSetI
  have : mRow (mRow m.2.2.1 k f) k g = mRow m.2.2.1 k g := by
    funext j
    unfold mRow
    split <;> rfl
  show (m.1, m.2.1, mRow (mRow m.2.2.1 k f) k g, m.2.2.2) = _
  rw [this]
/-- an array with v from a up to b -/
def filled (f : Nat → Int32) (a b : Nat) (v : Int32) : Nat → Int32 := fun i => if a ≤ i ∧ i < b then v else f i
theorem filled_in {f : Nat → Int32} {a b i : Nat} {v : Int32} (h1 : a ≤ i) (h2 : i < b) : filled f a b v i = v := if_pos ⟨h1, h2⟩
theorem filled_out {f : Nat → Int32} {a b i : Nat} {v : Int32} (h : i < a ∨ b ≤ i) : filled f a b v i = f i := if_neg (by omega)
theorem filled_0 {f : Nat → Int32} {a : Nat} {v : Int32} : filled f a a v = f := by
  funext i; exact filled_out (by omega)
theorem filled_s {f : Nat → Int32} {a b : Nat} {v : Int32} (h : a ≤ b) : upd (filled f a b v) b v = filled f a (b + 1) v := by
  funext i
  by_cases e : i = b
  · subst e; rw [up_s, filled_in h (Nat.lt_succ_self _)]
  · rw [up_n e]
    unfold filled
    by_cases q : a ≤ i ∧ i < b
    · rw [if_pos q, if_pos (by omega)]
    · rw [if_neg q, if_neg (by omega)]
section NET2
variable {d n r lr P T : Nat} {tk pt : Nat → Nat → Nat} {fi mk : Nat → Nat} {m : mMem} {Q : Option Value → mMem → Prop}
theorem ev_fill {k len : Nat} {v : Int32} (hd : 1 ≤ d) (hT : mWT m) (hA : m.1 k = some (.inl (.int, len)) ∧ k ≠ 0) (hl : len < 2 ^ 31) (hQ : Q none (mSetI m k (filled (m.2.2.1 k) 0 len v))) : mEv d 11 [.ref k, .int v] m Q := by
  refine mEv.at (by omega) G11 (Nat.le_of_ble_eq_true rfl) ?_
  refine bk11_0 hT hA ?_
  rintro v1 rfl
  have h0 : m = mSetI m k (filled (m.2.2.1 k) 0 0 v) := by rw [filled_0, mSetI_id]
  have := upto (e := len) (X := fun i => mEs (d - 1) 11 (mBase [.ref k, .int v]) g11 (5, [some (.ref k), some (.int v), some (.int (nI i)), some (.int (nI len))], [], mSetI m k (filled (m.2.2.1 k) 0 i v)) Q) ?_ ?_ 0 (Nat.zero_le _)
  · rw [← h0] at this; exact this
  · refine bk11_5 (lx0 := len) hT.setI hA ?_
    simp (disch := omega) only [forall_eq, nIle, nI_ltI, nIeq, nIx10, n10x, nI_add, nI_clamp, nIin_iff, nIinc, nIlt0, nIeq0, nIle0, nIle1, n1lt, n0lt, nIeq1, bz_0, Classical.not_not]
    exact ⟨fun _ => hQ, fun c => absurd (Nat.le_refl _) c⟩
  · intro i hi ih
    refine bk11_5 (lx0 := len) hT.setI hA ?_
    simp (disch := omega) only [forall_eq, nIle, nI_ltI, nIeq, nIx10, n10x, nI_add, nI_clamp, nIin_iff, nIinc, nIlt0, nIeq0, nIle0, nIle1, n1lt, n0lt, nIeq1, bz_0, Classical.not_not]
    rw [rdI_same, mSetI_2, filled_s (Nat.zero_le _)]
    exact ⟨fun c => by omega, fun _ => ⟨hi, ih⟩⟩
theorem ev_rangeCheck {x y z : Int32} (hd : 1 ≤ d) (h1 : y ≤ z) (h2 : 0 ≤ y) (h3 : z ≤ x) (hQ : Q none m) : mEv d 129 [.int x, .int y, .int z] m Q := by
  refine mEv.at (by omega) G129 (Nat.le_of_ble_eq_true rfl) ?_
  refine e_iload_n (pc' := 1) (dAt D129 0 rfl) rfl rfl ?_
  refine e_iload_n (pc' := 2) (dAt D129 1 rfl) rfl rfl ?_
  refine e_icmp_le (t := 46) (pc' := 5) (dAt D129 2 rfl) ⟨by decide, by decide⟩ rfl (fun c => ?_) (fun c => absurd h1 c)
  refine e_iload_n (pc' := 47) (dAt D129 21 rfl) rfl rfl ?_
  refine e_if_ge (t := 59) (pc' := 50) (dAt D129 22 rfl) ⟨by decide, by decide⟩ rfl (fun c => ?_) (fun c => absurd h2 c)
  refine e_iload_n (pc' := 60) (dAt D129 28 rfl) rfl rfl ?_
  refine e_iload_n (pc' := 61) (dAt D129 29 rfl) rfl rfl ?_
  refine e_icmp_le (t := 73) (pc' := 64) (dAt D129 30 rfl) ⟨by decide, by decide⟩ rfl (fun c => ?_) (fun c => absurd h3 c)
  exact e_return (dAt D129 36 rfl) rfl hQ
theorem ev_fillR {k len a b : Nat} {v : Int32} (hd : 2 ≤ d) (hT : mWT m) (hA : m.1 k = some (.inl (.int, len)) ∧ k ≠ 0) (hl : len < 2 ^ 31) (hab : a ≤ b) (hb : b ≤ len) (hQ : Q none (mSetI m k (filled (m.2.2.1 k) a b v))) : mEv d 128 [.ref k, .int (nI a), .int (nI b), .int v] m Q := by
  refine mEv.at (by omega) G128 (Nat.le_of_ble_eq_true rfl) ?_
  refine bk128_0 hT hA ?_
  refine ev_rangeCheck (by omega) ((nIle (by omega) (by omega)).mpr hab) ((n0le (by omega)).mpr trivial) ((nIle (a := b) (b := len) (by omega) hl).mpr hb) ?_
  refine bk128_7 hT hA ?_
  have h0 : m = mSetI m k (filled (m.2.2.1 k) a a v) := by rw [filled_0, mSetI_id]
  have := upto (e := b) (X := fun i => a ≤ i → mEs (d - 1) 128 (mBase [.ref k, .int (nI a), .int (nI b), .int v]) g128 (10, [some (.ref k), some (.int (nI a)), some (.int (nI b)), some (.int v), some (.int (nI i))], [], mSetI m k (filled (m.2.2.1 k) a i v)) Q) ?_ ?_ a hab (Nat.le_refl _)
  · rw [← h0] at this; exact this
  · intro _
    refine bk128_10 (lx0 := len) hT.setI hA ?_
    simp (disch := omega) only [forall_eq, nIle, nI_ltI, nIeq, nIx10, n10x, nI_add, nI_clamp, nIin_iff, nIinc, nIlt0, nIeq0, nIle0, nIle1, n1lt, n0lt, nIeq1, bz_0, Classical.not_not]
    exact ⟨fun _ => hQ, fun c => absurd (Nat.le_refl _) c⟩
  · intro i hi ih ha
    refine bk128_10 (lx0 := len) hT.setI hA ?_
    simp (disch := omega) only [forall_eq, nIle, nI_ltI, nIeq, nIx10, n10x, nI_add, nI_clamp, nIin_iff, nIinc, nIlt0, nIeq0, nIle0, nIle1, n1lt, n0lt, nIeq1, bz_0, Classical.not_not]
    rw [rdI_same, mSetI_2, filled_s ha]
    exact ⟨fun c => by omega, fun _ => ⟨by omega, ih (by omega)⟩⟩
theorem cNet.to {A : Nat → Prop} {F : Nat → Nat → Prop} {m' : mMem} (h : cNet m n P T tk pt fi) (ht : mTo A F m m') (h1 : ¬ A (64 * n + 1)) (h2 : ¬ A (64 * n + 2)) (h3 : ¬ A (64 * n + 3)) (h4 : ¬ F n 0) (h5 : ¬ F n 1) : cNet m' n P T tk pt fi := by
  obtain ⟨hO, hP, hTr, htk, hpt, hfi⟩ := h
  refine ⟨ht.ob hO, by rw [ht.nf h4, hP], by rw [ht.nf h5, hTr], ?_, ?_, ?_⟩
  · rw [ht.i h2]; exact htk
  · rw [ht.i h3]; exact hpt
  · rw [ht.i h1]; exact hfi
theorem cNet.sI (h : cNet m n P T tk pt fi) {f : Nat → Int32} (h1 : r ≠ 64 * n + 1) (h2 : r ≠ 64 * n + 2) (h3 : r ≠ 64 * n + 3) : cNet (mSetI m r f) n P T tk pt fi := by
  obtain ⟨hO, hP, hTr, htk, hpt, hfi⟩ := h
  refine ⟨hO, hP, hTr, ?_, ?_, ?_⟩
  · rw [rdI_ne h2.symm]; exact htk
  · rw [rdI_ne h3.symm]; exact hpt
  · rw [rdI_ne h1.symm]; exact hfi
/-- a row to which a transition was added from a base on, over the first p places -/
def moved (f : Nat → Int32) (tk pt : Nat → Nat → Nat) (base t p : Nat) : Nat → Int32 := fun i => if base ≤ i ∧ i < base + p then f i + (nI (pt t (i - base)) - nI (tk t (i - base))) else f i
theorem moved_0 {f : Nat → Int32} {base t : Nat} : moved f tk pt base t 0 = f := by
  funext i; exact if_neg (by omega)
theorem moved_in {f : Nat → Int32} {base t p q : Nat} (h : q < p) : moved f tk pt base t p (base + q) = f (base + q) + (nI (pt t q) - nI (tk t q)) := by
  unfold moved
  rw [if_pos (by omega), Nat.add_sub_cancel_left]
theorem moved_out {f : Nat → Int32} {base t p i : Nat} (h : i < base ∨ base + p ≤ i) : moved f tk pt base t p i = f i := if_neg (by omega)
theorem moved_s {f : Nat → Int32} {base t p : Nat} : upd (moved f tk pt base t p) (base + p) (f (base + p) + (nI (pt t p) - nI (tk t p))) = moved f tk pt base t (p + 1) := by
  funext i
  by_cases e : i = base + p
  · subst e; rw [up_s, moved_in (Nat.lt_succ_self _)]
  · rw [up_n e]
    unfold moved
    by_cases q : base ≤ i ∧ i < base + p
    · rw [if_pos q, if_pos (by omega)]
    · rw [if_neg q, if_neg (by omega)]
theorem moved_s0 {f : Nat → Int32} {t p : Nat} : upd (moved f tk pt 0 t p) p (f p + (nI (pt t p) - nI (tk t p))) = moved f tk pt 0 t (p + 1) := by
  have h := moved_s (tk := tk) (pt := pt) (f := f) (base := 0) (t := t) (p := p)
  rw [Nat.zero_add] at h
  exact h
theorem ev_move {t : Nat} (hd : 2 ≤ d) (hT : mWT m) (hN : cNet m n P T tk pt fi) (hk : okNet P T tk pt fi) (hA : m.1 r = some (.inl (.int, lr)) ∧ r ≠ 0) (hl : P ≤ lr) (hl2 : lr < 2 ^ 31) (h1 : r ≠ 64 * n + 1) (h2 : r ≠ 64 * n + 2) (h3 : r ≠ 64 * n + 3) (ht : t < T) (hQ : Q none (mSetI m r (moved (m.2.2.1 r) tk pt 0 t P))) : mEv d 27 [.ref n, .ref r, .int (nI t)] m Q := by
  obtain ⟨k1, k2, k3, k4, k5, k6, k7⟩ := id hk
  refine mEv.at (by omega) G27 (Nat.le_of_ble_eq_true rfl) ?_
  refine bk27_0 hT hN.1 hA ?_
  refine ev_hasTr (by omega) hT hN hk _ ?_
  rw [bz_t ⟨t, ht, rfl⟩]
  refine bk27_5 hT hN.1 hA ⟨fun _ => ?_, fun c => absurd c (by decide)⟩
  have h0 : m = mSetI m r (moved (m.2.2.1 r) tk pt 0 t 0) := by rw [moved_0, mSetI_id]
  have := upto (e := P) (X := fun p => mEs (d - 1) 27 (mBase [.ref n, .ref r, .int (nI t)]) g27 (11, [some (.ref n), some (.ref r), some (.int (nI t)), some (.int (nI p))], [], mSetI m r (moved (m.2.2.1 r) tk pt 0 t p)) Q) ?_ ?_ 0 (Nat.zero_le _)
  · rw [← h0] at this; exact this
  · have hN' := hN.sI (f := moved (m.2.2.1 r) tk pt 0 t P) h1 h2 h3
    refine bk27_11 hT.setI hN'.1 (lx1 := lr) hA ?_
    rw [hN'.2.1]
    simp (disch := omega) only [forall_eq, nIle, nI_ltI, nIeq, nIx10, n10x, nI_add, nI_clamp, nIin_iff, nIinc, nIlt0, nIeq0, nIle0, nIle1, n1lt, n0lt, nIeq1, bz_0, Classical.not_not]
    exact ⟨fun _ => hQ, fun c => absurd (Nat.le_refl _) c⟩
  · intro p hp ih
    have hN' := hN.sI (f := moved (m.2.2.1 r) tk pt 0 t p) h1 h2 h3
    refine bk27_11 hT.setI hN'.1 (lx1 := lr) hA ?_
    rw [hN'.2.1]
    simp (disch := omega) only [forall_eq, nIle, nI_ltI, nIeq, nIx10, n10x, nI_add, nI_clamp, nIin_iff, nIinc, nIlt0, nIeq0, nIle0, nIle1, n1lt, n0lt, nIeq1, bz_0, Classical.not_not]
    refine ⟨fun c => by omega, fun _ => ⟨by omega, ?_⟩⟩
    refine ev_change (by omega) hT.setI hN' (by omega) (by omega) ?_
    refine bk27_29 hT.setI hN'.1 (lx1 := lr) hA (ly0 := lr) hA ?_
    simp (disch := omega) only [forall_eq, nIle, nI_ltI, nIeq, nIx10, n10x, nI_add, nI_clamp, nIin_iff, nIinc, nIlt0, nIeq0, nIle0, nIle1, n1lt, n0lt, nIeq1, bz_0, Classical.not_not, rdI_same]
    rw [mSetI_2, moved_out (i := p) (by omega), moved_s0]
    exact ⟨by omega, ih⟩
/-- the places of which a row has more than 0, as bits -/
noncomputable def plB (P : Nat) (f : Nat → Nat) : Nat := bs (fun p => 0 < f p) P
theorem ev_placesIn {t a : Nat} {f : Nat → Nat} (hd : 1 ≤ d) (hT : mWT m) (hN : cNet m n P T tk pt fi) (hk : okNet P T tk pt fi) (hA : m.1 a = some (.inl (.int, 110)) ∧ a ≠ 0) (hf : ∀ p, p < 10 → m.2.2.1 a (t * 10 + p) = nI (f p)) (hf9 : ∀ p, f p ≤ 9) (ht : t < 10) (hQ : Q (some (.int (nI (plB P f)))) m) : mEv d 101 [.ref n, .ref a, .int (nI t)] m Q := by
  obtain ⟨k1, k2, k3, k4, k5, k6, k7⟩ := id hk
  refine mEv.at (by omega) G101 (Nat.le_of_ble_eq_true rfl) ?_
  refine bk101_0 hT hN.1 hA ?_
  refine upto (e := P) (X := fun p => mEs (d - 1) 101 _ g101 (5, [some (.ref n), some (.ref a), some (.int (nI t)), some (.int (nI (bs (fun p => 0 < f p) p))), some (.int (nI p))], [], m) Q) ?_ ?_ 0 (Nat.zero_le _)
  · refine bk101_5 hT hN.1 hA ?_
    rw [hN.2.1]
    simp (disch := omega) only [forall_eq, nIle, nI_ltI, nIeq, nIx10, n10x, nI_add, nI_clamp, nIin_iff, nIinc, nIlt0, nIeq0, nIle0, nIle1, n1lt, n0lt, nIeq1, bz_0, Classical.not_not]
    exact ⟨fun _ => hQ, fun c => absurd (Nat.le_refl _) c⟩
  · intro p hp ih
    have a1 := hf9 p
    refine bk101_5 hT hN.1 hA ?_
    rw [hN.2.1]
    simp (disch := omega) only [forall_eq, nIle, nI_ltI, nIeq, nIx10, n10x, nI_add, nI_clamp, nIin_iff, nIinc, nIlt0, nIeq0, nIle0, nIle1, n1lt, n0lt, nIeq1, bz_0, Classical.not_not, hf p (by omega), shl1, or_n]
    refine ⟨fun c => by omega, fun _ => ⟨by omega, fun c => ?_, fun c => ?_⟩⟩
    · rw [bs_sf (by omega)] at ih; exact ih
    · rw [bs_st (by omega)] at ih; exact ih
theorem ev_takenFrom {t : Nat} (hd : 2 ≤ d) (hT : mWT m) (hN : cNet m n P T tk pt fi) (hk : okNet P T tk pt fi) (ht : t < 10) (hQ : Q (some (.int (nI (plB P (tk t))))) m) : mEv d 100 [.ref n, .int (nI t)] m Q := by
  refine mEv.at (by omega) G100 (Nat.le_of_ble_eq_true rfl) ?_
  refine bk100_0 hT hN.1 ?_
  refine ev_placesIn (by omega) hT hN hk (hT.arr hN.1 1 rfl (by decide)) (hN.2.2.2.1 t ht) (hk.2.2.1 t) ht ?_
  exact bk100_9 hT hN.1 hQ
theorem ev_putInto {t : Nat} (hd : 2 ≤ d) (hT : mWT m) (hN : cNet m n P T tk pt fi) (hk : okNet P T tk pt fi) (ht : t < 10) (hQ : Q (some (.int (nI (plB P (pt t))))) m) : mEv d 102 [.ref n, .int (nI t)] m Q := by
  refine mEv.at (by omega) G102 (Nat.le_of_ble_eq_true rfl) ?_
  refine bk102_0 hT hN.1 ?_
  refine ev_placesIn (by omega) hT hN hk (hT.arr hN.1 2 rfl (by decide)) (hN.2.2.2.2.1 t ht) (hk.2.2.2.1 t) ht ?_
  exact bk102_9 hT hN.1 hQ
theorem sm_le9 {f : Nat → Nat} (h : ∀ p, f p ≤ 9) (n : Nat) : fb_sm f n ≤ 9 * n := by
  induction n with
  | zero => exact Nat.le_refl _
  | succ n ih => rw [fb_sm_succ]; have := h n; omega
theorem ev_sumOf {t a : Nat} {f : Nat → Nat} (hd : 1 ≤ d) (hT : mWT m) (hN : cNet m n P T tk pt fi) (hk : okNet P T tk pt fi) (hA : m.1 a = some (.inl (.int, 110)) ∧ a ≠ 0) (hf : ∀ p, p < 10 → m.2.2.1 a (t * 10 + p) = nI (f p)) (hf9 : ∀ p, f p ≤ 9) (ht : t < 10) (hQ : Q (some (.int (nI (fb_sm f P)))) m) : mEv d 114 [.ref n, .ref a, .int (nI t)] m Q := by
  obtain ⟨k1, k2, k3, k4, k5, k6, k7⟩ := id hk
  refine mEv.at (by omega) G114 (Nat.le_of_ble_eq_true rfl) ?_
  refine bk114_0 hT hN.1 hA ?_
  refine upto (e := P) (X := fun p => mEs (d - 1) 114 _ g114 (5, [some (.ref n), some (.ref a), some (.int (nI t)), some (.int (nI (fb_sm f p))), some (.int (nI p))], [], m) Q) ?_ ?_ 0 (Nat.zero_le _)
  · refine bk114_5 hT hN.1 hA ?_
    rw [hN.2.1]
    simp (disch := omega) only [forall_eq, nIle, nI_ltI, nIeq, nIx10, n10x, nI_add, nI_clamp, nIin_iff, nIinc, nIlt0, nIeq0, nIle0, nIle1, n1lt, n0lt, nIeq1, bz_0, Classical.not_not]
    exact ⟨fun _ => hQ, fun c => absurd (Nat.le_refl _) c⟩
  · intro p hp ih
    refine bk114_5 hT hN.1 hA ?_
    rw [hN.2.1]
    simp (disch := omega) only [forall_eq, nIle, nI_ltI, nIeq, nIx10, n10x, nI_add, nI_clamp, nIin_iff, nIinc, nIlt0, nIeq0, nIle0, nIle1, n1lt, n0lt, nIeq1, bz_0, Classical.not_not, hf p (by omega)]
    exact ⟨fun c => by omega, fun _ => ⟨by omega, ih⟩⟩
theorem ev_takenInAll {t : Nat} (hd : 2 ≤ d) (hT : mWT m) (hN : cNet m n P T tk pt fi) (hk : okNet P T tk pt fi) (ht : t < 10) (hQ : Q (some (.int (nI (fb_sm (tk t) P)))) m) : mEv d 125 [.ref n, .int (nI t)] m Q := by
  refine mEv.at (by omega) G125 (Nat.le_of_ble_eq_true rfl) ?_
  refine bk125_0 hT hN.1 ?_
  refine ev_sumOf (by omega) hT hN hk (hT.arr hN.1 1 rfl (by decide)) (hN.2.2.2.1 t ht) (hk.2.2.1 t) ht ?_
  exact bk125_9 hT hN.1 hQ
end NET2
