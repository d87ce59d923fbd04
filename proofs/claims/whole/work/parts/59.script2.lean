/-! Script: parts, the whole text, signs. -/
def pN (m : mMem) (n : Nat) (st : pS) : Prop := iF m n 0 = nI st.1 ∧ iF m n 1 = nI st.2.1 ∧ (∀ i, i < 110 → m.2.2.1 (64 * n + 2) i = nI (st.2.2.1 i)) ∧ (∀ i, i < 110 → m.2.2.1 (64 * n + 3) i = nI (st.2.2.2.1 i)) ∧ (∀ i, i < 10 → m.2.2.1 (64 * n + 1) i = nI (st.2.2.2.2 i))
def pA (n k : Nat) : Prop := k = 64 * n + 1 ∨ k = 64 * n + 2 ∨ k = 64 * n + 3
def pF (s n k f : Nat) : Prop := (k = s ∧ (f = 2 ∨ f = 3)) ∨ (k = n ∧ (f = 0 ∨ f = 1))
def rpPost (m' : mMem) (s n : Nat) : Nat ⊕ (Nat × pS) → Prop
  | .inl f => iF m' s 3 = nI f
  | .inr (a', st') => iF m' s 2 = nI a' ∧ iF m' s 3 = -1 ∧ pN m' n st'
def rnPost (m' : mMem) (n : Nat) (v : Int32) : Nat ⊕ pS → Prop
  | .inl f => v = nI f
  | .inr st' => v = -1 ∧ pN m' n st'
section SCR2
variable {d s n len a : Nat} {tx : Nat → Nat} {m : mMem} {Q : Option Value → mMem → Prop}
theorem pN.to {m' : mMem} {st : pS} {A : Nat → Prop} {F : Nat → Nat → Prop} (h : pN m n st) (ht : mTo A F m m') (h1 : ¬ A (64 * n + 1)) (h2 : ¬ A (64 * n + 2)) (h3 : ¬ A (64 * n + 3)) (h4 : ¬ F n 0) (h5 : ¬ F n 1) : pN m' n st := by
  obtain ⟨a, b, c, e, f⟩ := h
  refine ⟨by rw [ht.nf h4, a], by rw [ht.nf h5, b], ?_, ?_, ?_⟩
  · rw [ht.i h2]; exact c
  · rw [ht.i h3]; exact e
  · rw [ht.i h1]; exact f
theorem toP {r : Nat} {m m' : mMem} (hr : pA n r) (h : mTo (fun k => k = r) (fun k f => (k = s ∧ (f = 2 ∨ f = 3)) ∨ (k = n ∧ f = 0)) m m') : mTo (pA n) (pF s n) m m' :=
  h.mono (fun k e => by rw [e]; exact hr) (fun k f e => by unfold pF; omega)
theorem ev_readTransition {st : pS} (hd : 4 ≤ d) (hT : mWT m) (hX : cTxt m s tx len) (hO2 : m.1 n = some (.inr 2) ∧ n ≠ 0) (hsn : s ≠ n) (hN : pN m n st) (hk : okS st) (ha : iF m s 2 = nI a) (hf : iF m s 3 = -1) (hal : a ≤ len) (hska : sk tx len a = a) (hnm : ¬ (a < len ∧ tx a = 109)) (hQ : ∀ m', mTo (pA n) (pF s n) m m' → rpPost m' s n (rpart tx len a st) → Q none m') : mEv d 17 [.ref s, .ref n] m Q := by
  obtain ⟨hO, h0, hs, h240, h255⟩ := id hX
  obtain ⟨o1, o2, o3, o4, o5, o6, o7, o8⟩ := id hk
  obtain ⟨n1, n2, n3, n4, n5⟩ := id hN
  rw [rpart_t hnm] at hQ
  refine mEv.at (by omega) G17 (Nat.le_of_ble_eq_true rfl) ?_
  refine bk17_0 hT hO hO2 ?_
  rw [n2]
  rintro v rfl
  rw [nIx10]
  refine ev_readTokens (base := st.2.1 * 10) (most := 9) (by omega) hT hX hO2 (hT.arr hO2 1 rfl (by decide)) (by omega) ha hf hal (by omega) (by omega) n3 o3 (by omega) n1 o1 hsn ?_
  intro m1 t1 p1
  have g := rt_good (tx := tx) (most := 9) (base := st.2.1 * 10) (a := a) st.2.2.1 st.1 hal o1 o3
  rw [hska] at p1
  revert hQ p1 g
  generalize rt tx len 9 (st.2.1 * 10) a st.2.2.1 st.1 = R
  intro hQ p1 g
  have T1 := toP (Or.inr (Or.inl rfl)) t1
  refine bk17_20 t1.wt (t1.ob hO) (t1.ob hO2) ?_
  cases R with
  | inl f =>
    have p1' : iF m1 s 3 = nI f := p1
    have g' : f < len := g
    rw [p1']
    exact ⟨fun c => absurd c (neg1_ne (by omega)), fun _ => hQ m1 T1 p1'⟩
  | inr x =>
    obtain ⟨a', row', pl'⟩ := x
    obtain ⟨g1, g2, g3, g4, g5, g6⟩ := g
    obtain ⟨p2, p3, p4, p5⟩ := p1
    rw [p3]
    refine ⟨fun _ => ?_, fun c => absurd rfl c⟩
    have hX1 := hX.to t1 (by omega) (by omega)
    refine ev_isAt (c := 62) (by omega) t1.wt hX1 p2 g2 (by omega) ?_
    refine bk17_35 t1.wt (t1.ob hO) (t1.ob hO2) ?_
    have n2' : iF m1 n 1 = nI st.2.1 := by rw [t1.nf (by omega), n2]
    rw [n2', p2]
    dsimp only at hQ
    simp (disch := omega) only [forall_eq, nIle, nI_ltI, nIeq, nIx10, n10x, nI_add, nI_clamp, nIin_iff, nIinc, nIlt0, nIeq0, nIle0, nIle1, n1lt, n0lt, nIeq1, bz_0, Classical.not_not, l10]
    have bad : ¬ ((a' < len ∧ tx a' = 62) ∧ st.2.1 < 10) → Q none (mSetF m1 s 3 (.int (nI a'))) := by
      intro z
      rw [@if_neg _ (Classical.propDecidable _) z] at hQ
      exact hQ _ (T1.sF hO (Or.inl ⟨rfl, Or.inr rfl⟩) (by decide)) iF_s
    refine ⟨fun z => bad (fun q => z q.1), fun z => ⟨fun z2 => ?_, fun z2 => bad (fun q => z2 q.2)⟩⟩
    rw [@if_pos _ (Classical.propDecidable _) ⟨z, z2⟩] at hQ
    have T2 := T1.sF (v := nI (a' + 1)) hO (f := 2) (Or.inl ⟨rfl, Or.inl rfl⟩) (by decide)
    rw [iF_nk (Ne.symm hsn), n2', nIinc]
    have T3 := T2.sF (v := nI (st.2.1 + 1)) hO2 (f := 1) (Or.inr ⟨rfl, Or.inr rfl⟩) (by decide)
    have hX3 := hX.to T3 (by unfold pA; omega) (by unfold pF; omega)
    refine ev_readTokens (row := st.2.2.2.1) (pl := pl') (a := a' + 1) (base := st.2.1 * 10) (most := 9) (by omega) T3.wt hX3 (T3.ob hO2) (T3.wt.arr (T3.ob hO2) 2 rfl (by decide)) (by omega) (by rw [iF_nf (by decide), iF_s]) (by rw [iF_nk hsn, iF_nf (by decide), p3]) (by omega) (by omega) (by omega) (by rw [rI_F, rI_F, t1.i (by omega)]; exact n4) o4 (by omega) (by rw [iF_nf (by decide), iF_nk (Ne.symm hsn), p5]) g4 hsn ?_
    intro m4 t4 p4'
    have T4 := T3.tr (toP (Or.inr (Or.inr rfl)) t4)
    refine bk17_88 T4.wt (T4.ob hO) (T4.ob hO2) (hQ m4 T4 ?_)
    have k := rt_good (tx := tx) (most := 9) (base := st.2.1 * 10) (a := sk tx len (a' + 1)) st.2.2.2.1 pl' (sk_le (by omega)) g4 o4
    revert p4' k
    generalize rt tx len 9 (st.2.1 * 10) (sk tx len (a' + 1)) st.2.2.2.1 pl' = R2
    intro p4' k
    cases R2 with
    | inl f => exact p4'
    | inr y =>
      obtain ⟨a2, row2, pl2⟩ := y
      obtain ⟨w1, w2, w3, w4⟩ := p4'
      refine ⟨w1, w2, w4, ?_, ?_, w3, ?_⟩
      · rw [t4.nf (by omega), iF_s]
      · rw [t4.i (by omega), rI_F, rI_F]; exact p4
      · rw [t4.i (by omega), rI_F, rI_F, t1.i (by omega)]; exact n5
theorem ev_readPart {st : pS} (hd : 5 ≤ d) (hT : mWT m) (hX : cTxt m s tx len) (hO2 : m.1 n = some (.inr 2) ∧ n ≠ 0) (hsn : s ≠ n) (hN : pN m n st) (hk : okS st) (ha : iF m s 2 = nI a) (hf : iF m s 3 = -1) (hal : a ≤ len) (hQ : ∀ m', mTo (pA n) (pF s n) m m' → rpPost m' s n (rpart tx len (sk tx len a) st) → Q none m') : mEv d 12 [.ref s, .ref n] m Q := by
  obtain ⟨hO, h0, hs, h240, h255⟩ := id hX
  obtain ⟨o1, o2, o3, o4, o5, o6, o7, o8⟩ := id hk
  refine mEv.at (by omega) G12 (Nat.le_of_ble_eq_true rfl) ?_
  refine bk12_0 hT hO hO2 ?_
  refine ev_skip (by omega) hT hX ha hal ?_
  have T1 : mTo (pA n) (pF s n) m (mSetF m s 2 (.int (nI (sk tx len a)))) := (mTo.rf hT).sF hO (f := 2) (Or.inl ⟨rfl, Or.inl rfl⟩) (by decide)
  have hX1 := hX.to T1 (by unfold pA; omega) (by unfold pF; omega)
  have hle := sk_le (tx := tx) hal
  have hN1 : pN (mSetF m s 2 (.int (nI (sk tx len a)))) n st := by
    obtain ⟨n1, n2, n3, n4, n5⟩ := hN
    exact ⟨by rw [iF_nk (Ne.symm hsn), n1], by rw [iF_nk (Ne.symm hsn), n2], n3, n4, n5⟩
  have hf1 : iF (mSetF m s 2 (.int (nI (sk tx len a)))) s 3 = -1 := by rw [iF_nf (by decide), hf]
  have ha1 : iF (mSetF m s 2 (.int (nI (sk tx len a)))) s 2 = nI (sk tx len a) := iF_s
  generalize mSetF m s 2 (.int (nI (sk tx len a))) = m1 at *
  refine bk12_4 T1.wt (T1.ob hO) (T1.ob hO2) ?_
  refine ev_isAt (c := 109) (by omega) T1.wt hX1 ha1 hle (by omega) ?_
  refine bk12_10 T1.wt (T1.ob hO) (T1.ob hO2) ?_
  rw [ha1]
  simp (disch := omega) only [forall_eq, nIle, nI_ltI, nIeq, nIx10, n10x, nI_add, nI_clamp, nIin_iff, nIinc, nIlt0, nIeq0, nIle0, nIle1, n1lt, n0lt, nIeq1, bz_0, Classical.not_not]
  refine ⟨fun z => ?_, fun z => ?_⟩
  · refine ev_readTransition (by omega) T1.wt hX1 (T1.ob hO2) hsn hN1 hk ha1 hf1 hle (sk_sk a) z ?_
    intro m2 t2 p2
    exact bk12_43 t2.wt (t2.ob (T1.ob hO)) (t2.ob (T1.ob hO2)) (hQ m2 (T1.tr t2) p2)
  · rw [rpart_m z] at hQ
    have T2 := T1.sF (v := nI (sk tx len a + 1)) hO (f := 2) (Or.inl ⟨rfl, Or.inl rfl⟩) (by decide)
    have hX2 := hX.to T2 (by unfold pA; omega) (by unfold pF; omega)
    obtain ⟨n1, n2, n3, n4, n5⟩ := id hN1
    refine ev_readTokens (row := st.2.2.2.2) (pl := st.1) (a := sk tx len a + 1) (base := 0) (most := 99) (by omega) T2.wt hX2 (T2.ob hO2) (T2.wt.arr (T2.ob hO2) 0 rfl (by decide)) (by omega) iF_s (by rw [iF_nf (by decide), hf1]) (by omega) (by omega) (by omega) n5 o5 (by omega) (by rw [iF_nk (Ne.symm hsn), n1]) o1 hsn ?_
    intro m3 t3 p3
    have T3 := T2.tr (toP (Or.inl rfl) t3)
    refine bk12_35 T3.wt (T3.ob hO) (T3.ob hO2) ?_
    refine bk12_43 T3.wt (T3.ob hO) (T3.ob hO2) (hQ m3 T3 ?_)
    revert p3
    generalize rt tx len 99 0 (sk tx len (sk tx len a + 1)) st.2.2.2.2 st.1 = R
    intro p3
    cases R with
    | inl f => exact p3
    | inr x =>
      obtain ⟨a', row', pl'⟩ := x
      obtain ⟨w1, w2, w3, w4⟩ := p3
      refine ⟨w1, w2, w4, ?_, ?_, ?_, w3⟩
      · rw [t3.nf (by omega), iF_nk (Ne.symm hsn), n2]
      · rw [t3.i (by omega), rI_F]; exact n3
      · rw [t3.i (by omega), rI_F]; exact n4
theorem ev_readInto (hd : 6 ≤ d) (hT : mWT m) (hX : cTxt m s tx len) (hO2 : m.1 n = some (.inr 2) ∧ n ≠ 0) (hsn : s ≠ n) (hQ : ∀ m' v, mTo (pA n) (pF s n) m m' → rnPost m' n v (rnet tx len) → Q (some (.int v)) m') : mEv d 9 [.ref s, .ref n] m Q := by
  obtain ⟨hO, h0, hs, h240, h255⟩ := id hX
  refine mEv.at (by omega) G9 (Nat.le_of_ble_eq_true rfl) ?_
  refine bk9_0 hT hO hO2 ?_
  refine ev_clear (by omega) hT hO2 ?_
  intro m1 t1 c1 c2 c3 c4 c5
  have T1 : mTo (pA n) (pF s n) m m1 := t1.mono (fun k e => e) (fun k f e => by unfold pF; omega)
  refine bk9_4 T1.wt (T1.ob hO) (T1.ob hO2) ?_
  rintro m2 rfl m3 rfl
  have T2 := T1.sF (v := 0) hO (f := 2) (Or.inl ⟨rfl, Or.inl rfl⟩) (by decide)
  have T3 := T2.sF (v := -1) hO (f := 3) (Or.inl ⟨rfl, Or.inr rfl⟩) (by decide)
  have hX3 := hX.to T3 (by unfold pA; omega) (by unfold pF; omega)
  have hN3 : pN (mSetF (mSetF m1 s 2 (.int 0)) s 3 (.int (-1))) n s00 := by
    refine ⟨?_, ?_, c4, c5, c3⟩
    · rw [iF_nk (Ne.symm hsn), iF_nk (Ne.symm hsn), c1]; rfl
    · rw [iF_nk (Ne.symm hsn), iF_nk (Ne.symm hsn), c2]; rfl
  refine ev_readPart (a := 0) (by omega) T3.wt hX3 (T3.ob hO2) hsn hN3 ok00 (by rw [iF_nf (by decide), iF_s]; rfl) iF_s (Nat.zero_le _) ?_
  intro m4 t4 p4
  have T4 := T3.tr t4
  refine bk9_19 T4.wt (T4.ob hO) (T4.ob hO2) ?_
  unfold rnet at hQ
  have gg := rpart_good (tx := tx) (len := len) (a := sk tx len 0) (sk_le (Nat.zero_le _)) ok00
  -- the end with a fault
  have bad : ∀ (m5 : mMem) (f c : Nat), mTo (pA n) (pF s n) m m5 → f ≤ len → iF m5 s 3 = nI f → c ≤ 1000 → (∀ v, v = nI f → Q (some (.int v)) m5) → mEs (d - 1) 9 (mBase [.ref s, .ref n]) g9 (21, [some (.ref s), some (.ref n), some (.int (nI c))], [], m5) Q := by
    intro m5 f c T5 hf e hc k
    refine bk9_21 T5.wt (T5.ob hO) (T5.ob hO2) ?_
    rw [e]
    have ne := neg1_ne (a := f) (by omega)
    refine ⟨fun _ => ⟨fun _ => k _ rfl, fun z => absurd ne z⟩, fun _ => ⟨fun _ => ⟨fun _ => k _ rfl, fun z => absurd ne z⟩, fun z => absurd ne z⟩⟩
  revert hQ p4 gg
  generalize rpart tx len (sk tx len 0) s00 = R
  intro hQ p4 gg
  cases R with
  | inl f => exact bad m4 f 1 T4 gg p4 (by omega) (fun v e => hQ m4 v T4 e)
  | inr x =>
    obtain ⟨a0, st0⟩ := x
    obtain ⟨gg1, gg2, gg3⟩ := gg
    dsimp only at hQ
    obtain ⟨q2, q3, q4⟩ := p4
    have key : ∀ b, ∀ (c : Nat) (m5 : mMem) (st : pS), c ≤ b + 1 → b ≤ len → okS st → mTo (pA n) (pF s n) m m5 → iF m5 s 2 = nI b → iF m5 s 3 = -1 → pN m5 n st → (∀ m' v, mTo (pA n) (pF s n) m m' → rnPost m' n v (rps tx len b st) → Q (some (.int v)) m') → mEs (d - 1) 9 (mBase [.ref s, .ref n]) g9 (21, [some (.ref s), some (.ref n), some (.int (nI c))], [], m5) Q := by
      intro b
      refine byMeas (X := fun b => ∀ (c : Nat) (m5 : mMem) (st : pS), c ≤ b + 1 → b ≤ len → okS st → mTo (pA n) (pF s n) m m5 → iF m5 s 2 = nI b → iF m5 s 3 = -1 → pN m5 n st → (∀ m' v, mTo (pA n) (pF s n) m m' → rnPost m' n v (rps tx len b st) → Q (some (.int v)) m') → mEs (d - 1) 9 (mBase [.ref s, .ref n]) g9 (21, [some (.ref s), some (.ref n), some (.int (nI c))], [], m5) Q) (fun b => len - b) (fun b ih => ?_) b
      intro c m5 st hc hb ho T5 e2 e3 eN hQ
      have hX5 := hX.to T5 (by unfold pA; omega) (by unfold pF; omega)
      obtain ⟨n1, n2, n3, n4, n5⟩ := id eN
      have ho1 := ho.1
      refine bk9_21 T5.wt (T5.ob hO) (T5.ob hO2) ?_
      rw [e2, e3, hX5.2.1, n1]
      -- the end of the text
      have fin : ¬ b < len → ((¬ (-1 : Int32) = -1 → Q (some (.int (-1))) m5) ∧ (¬ ¬ (-1 : Int32) = -1 → ((¬ nI st.1 = 0 → Q (some (.int (-1))) m5) ∧ (¬ ¬ nI st.1 = 0 → ∀ (m_1 : mMem), m_1 = mSetF m5 s 3 (.int (nI len)) → Q (some (.int (iF m_1 s 3))) m_1)))) := by
        intro z
        have E : rps tx len b st = (if st.1 = 0 then .inl len else .inr st) := by
          rcases rps_e (tx := tx) (s := st) z with E | E
          · exact E
          · omega
        rw [E] at hQ
        refine ⟨fun w => absurd rfl w, fun _ => ?_⟩
        simp (disch := omega) only [forall_eq, nIle, nI_ltI, nIeq, nIx10, n10x, nI_add, nI_clamp, nIin_iff, nIinc, nIlt0, nIeq0, nIle0, nIle1, n1lt, n0lt, nIeq1, bz_0, Classical.not_not]
        refine ⟨fun w => ?_, fun w => ?_⟩
        · rw [if_neg w] at hQ
          exact hQ m5 _ T5 ⟨rfl, eN⟩
        · rw [if_pos w] at hQ
          rw [iF_s]
          exact hQ _ _ (T5.sF hO (f := 3) (Or.inl ⟨rfl, Or.inr rfl⟩) (by decide)) rfl
      refine ⟨fun z => fin ?_, fun z => ⟨fun w => absurd rfl w, fun _ => ⟨fun w => fin ?_, fun w => ?_⟩⟩⟩
      · rw [l240, nI_ltI (by omega) (by omega)] at z; omega
      · rw [nIle (by omega) (by omega)] at w; omega
      · rw [nIle (by omega) (by omega)] at w
        refine ev_isAt (c := 59) (by omega) T5.wt hX5 e2 hb (by omega) ?_
        refine bk9_53 T5.wt (T5.ob hO) (T5.ob hO2) ?_
        rw [e2]
        simp (disch := omega) only [forall_eq, nIle, nI_ltI, nIeq, nIx10, n10x, nI_add, nI_clamp, nIin_iff, nIinc, nIlt0, nIeq0, nIle0, nIle1, n1lt, n0lt, nIeq1, bz_0, Classical.not_not]
        refine ⟨fun u => ?_, fun u => ?_⟩
        · rw [rps_x (by omega) (fun e => u ⟨by omega, e⟩)] at hQ
          exact bad _ b (c + 1) (T5.sF hO (f := 3) (Or.inl ⟨rfl, Or.inr rfl⟩) (by decide)) hb iF_s (by omega) (fun v e => hQ _ v (T5.sF hO (f := 3) (Or.inl ⟨rfl, Or.inr rfl⟩) (by decide)) e)
        · rw [rps_l ho u.1 u.2] at hQ
          have T6 := T5.sF (v := nI (b + 1)) hO (f := 2) (Or.inl ⟨rfl, Or.inl rfl⟩) (by decide)
          have hX6 := hX.to T6 (by unfold pA; omega) (by unfold pF; omega)
          refine ev_readPart (st := st) (a := b + 1) (by omega) T6.wt hX6 (T6.ob hO2) hsn ⟨by rw [iF_nk (Ne.symm hsn), n1], by rw [iF_nk (Ne.symm hsn), n2], n3, n4, n5⟩ ho iF_s (by rw [iF_nf (by decide), e3]) (by omega) ?_
          intro m7 t7 p7
          have T7 := T6.tr t7
          refine bk9_71 T7.wt (T7.ob hO) (T7.ob hO2) ?_
          simp (disch := omega) only [forall_eq, nIle, nI_ltI, nIeq, nIx10, n10x, nI_add, nI_clamp, nIin_iff, nIinc, nIlt0, nIeq0, nIle0, nIle1, n1lt, n0lt, nIeq1, bz_0, Classical.not_not]
          have h3 := sk_ge (tx := tx) (len := len) (b + 1)
          have g := rpart_good (tx := tx) (len := len) (a := sk tx len (b + 1)) (sk_le (by omega)) ho
          revert hQ p7 g
          generalize rpart tx len (sk tx len (b + 1)) st = R
          intro hQ p7 g
          cases R with
          | inl f => exact bad m7 f (c + 1) T7 g p7 (by omega) (fun v e => hQ m7 v T7 e)
          | inr x =>
            obtain ⟨a', st'⟩ := x
            obtain ⟨g1, g2, g3⟩ := g
            obtain ⟨w2, w3, w4⟩ := p7
            exact ih a' (by omega) (c + 1) m7 st' (by omega) g2 g3 T7 w2 w3 w4 hQ
    exact key a0 1 m4 st0 (by omega) gg2 gg3 T4 q2 q3 q4 hQ
end SCR2
