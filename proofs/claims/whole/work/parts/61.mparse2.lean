/-! The model reads parts and nets. -/
section SKD
variable {tx : Nat → Nat} {len : Nat}
def skd (tx : Nat → Nat) (len : Nat) : rR → Prop
  | .inl _ => True
  | .inr x => sk tx len x.1 = x.1
theorem rt_skd {most base a : Nat} : ∀ (row : Nat → Nat) (pl : Nat), sk tx len a = a → skd tx len (rt tx len most base a row pl) := by
  refine byMeas (X := fun a => ∀ (row : Nat → Nat) (pl : Nat), sk tx len a = a → skd tx len (rt tx len most base a row pl)) (fun a => len - a) (fun a ih => ?_) a
  intro row pl h
  by_cases q : isLt tx len a
  · by_cases q2 : most < row (base + (tx a - 65)) + tkN tx len a
    · rw [rt_f q q2]; exact trivial
    · rw [rt_l q q2]
      have h1 := sk_ge (tx := tx) (len := len) (tkA tx len a)
      have h2 := tkA_ge (tx := tx) (len := len) a
      have h3 := q.1
      exact ih _ (by omega) _ _ (sk_sk _)
  · rw [rt_n q]; exact h
def skp (tx : Nat → Nat) (len : Nat) : Nat ⊕ (Nat × pS) → Prop
  | .inl _ => True
  | .inr x => sk tx len x.1 = x.1
theorem rpart_skd {a : Nat} {s : pS} (ha : sk tx len a = a) : skp tx len (rpart tx len a s) := by
  by_cases h : a < len ∧ tx a = 109
  · rw [rpart_m h]
    have g := rt_skd (tx := tx) (len := len) (most := 99) (base := 0) (a := sk tx len (a + 1)) s.2.2.2.2 s.1 (sk_sk _)
    revert g
    generalize rt tx len 99 0 (sk tx len (a + 1)) s.2.2.2.2 s.1 = R
    intro g
    cases R with
    | inl f => exact trivial
    | inr x => exact g
  · rw [rpart_t h]
    generalize rt tx len 9 (s.2.1 * 10) a s.2.2.1 s.1 = R
    cases R with
    | inl f => exact trivial
    | inr x =>
      obtain ⟨a', row', pl'⟩ := x
      show skp tx len (@ite _ ((a' < len ∧ tx a' = 62) ∧ s.2.1 < 10) (Classical.propDecidable _) _ _)
      by_cases c : (a' < len ∧ tx a' = 62) ∧ s.2.1 < 10
      · rw [@if_pos _ (Classical.propDecidable _) c]
        have k := rt_skd (tx := tx) (len := len) (most := 9) (base := s.2.1 * 10) (a := sk tx len (a' + 1)) s.2.2.2.1 pl' (sk_sk _)
        revert k
        generalize rt tx len 9 (s.2.1 * 10) (sk tx len (a' + 1)) s.2.2.2.1 pl' = R2
        intro k
        cases R2 with
        | inl f => exact trivial
        | inr y => exact k
      · rw [@if_neg _ (Classical.propDecidable _) c]; exact trivial
end SKD
def pM (m : mMem) (o : Nat) (st : pS) : Prop := iF m o 13 = nI st.1 ∧ iF m o 14 = nI st.2.1 ∧ (∀ i, i < 110 → m.2.2.1 (64 * o + 7) i = nI (st.2.2.1 i)) ∧ (∀ i, i < 110 → m.2.2.1 (64 * o + 8) i = nI (st.2.2.2.1 i)) ∧ (∀ i, i < 10 → m.2.2.1 (64 * o + 9) i = nI (st.2.2.2.2 i))
def mpA (o k : Nat) : Prop := k = 64 * o + 7 ∨ k = 64 * o + 8 ∨ k = 64 * o + 9
def mpF (o k f : Nat) : Prop := k = o ∧ (f = 3 ∨ f = 4 ∨ f = 5 ∨ f = 13 ∨ f = 14)
def mrpPost (m' : mMem) (o len : Nat) : Nat ⊕ (Nat × pS) → Prop
  | .inl f => iF m' o 5 = 0 ∧ iF m' o 4 = nI f ∧ ∃ b, b ≤ len ∧ iF m' o 3 = nI b
  | .inr (a', st') => iF m' o 3 = nI a' ∧ iF m' o 5 = 1 ∧ pM m' o st'
section MPB
variable {d o len a : Nat} {tx : Nat → Nat} {m : mMem} {Q : Option Value → mMem → Prop}
theorem toM {r : Nat} {m m' : mMem} (hr : mpA o r) (h : mTo (fun k => k = r) (mrF o) m m') : mTo (mpA o) (mpF o) m m' :=
  h.mono (fun k e => by rw [e]; exact hr) (fun k f e => by unfold mrF at e; unfold mpF; omega)
theorem ev_mPart {st : pS} (hd : 3 ≤ d) (hT : mWT m) (hX : mTxt m o tx len) (hN : pM m o st) (hk : okS st) (ha : iF m o 3 = nI a) (hf : iF m o 5 = 1) (hal : a ≤ len) (hQ : ∀ m', mTo (mpA o) (mpF o) m m' → mrpPost m' o len (rpart tx len (sk tx len a) st) → Q none m') : mEv d 153 [.ref o] m Q := by
  obtain ⟨hO, h0, hs, h240, h255⟩ := id hX
  obtain ⟨o1, o2, o3, o4, o5, o6, o7, o8⟩ := id hk
  refine mEv.at (by omega) G153 (Nat.le_of_ble_eq_true rfl) ?_
  refine bk153_0 hT hO ?_
  refine ev_next (by omega) hT hX ha hal ?_
  have T1 : mTo (mpA o) (mpF o) m (mSetF m o 3 (.int (nI (sk tx len a)))) := (mTo.rf hT).sF hO (f := 3) ⟨rfl, by omega⟩ (by decide)
  have hX1 := hX.to T1 (by unfold mpA; omega) (by unfold mpF; omega)
  have hle := sk_le (tx := tx) hal
  have hsk := sk_sk (tx := tx) (len := len) a
  have hN1 : pM (mSetF m o 3 (.int (nI (sk tx len a)))) o st := by
    obtain ⟨n1, n2, n3, n4, n5⟩ := hN
    exact ⟨by rw [iF_nf (by decide), n1], by rw [iF_nf (by decide), n2], n3, n4, n5⟩
  have hf1 : iF (mSetF m o 3 (.int (nI (sk tx len a)))) o 5 = 1 := by rw [iF_nf (by decide), hf]
  have ha1 : iF (mSetF m o 3 (.int (nI (sk tx len a)))) o 3 = nI (sk tx len a) := iF_s
  generalize mSetF m o 3 (.int (nI (sk tx len a))) = m1 at *
  generalize sk tx len a = b at *
  obtain ⟨n1, n2, n3, n4, n5⟩ := id hN1
  refine bk153_4 T1.wt (T1.ob hO) ?_
  rw [l109, nxV_eq h255 (by omega) (by omega), ha1, n2]
  refine ⟨fun z => ?_, fun z => ?_⟩
  · rw [rpart_t z] at hQ
    rintro v rfl
    rw [n10x]
    have hc : st.2.1 * 10 = 10 * st.2.1 := Nat.mul_comm _ _
    rw [hc] at hQ
    refine ev_mTokens (base := 10 * st.2.1) (most := 9) (by omega) T1.wt hX1 (T1.wt.arr (T1.ob hO) 6 rfl (by decide)) (by omega) ha1 hf1 hle (by omega) (by omega) n3 o3 (by omega) n1 o1 ?_
    intro m2 t2 p2
    rw [hsk] at p2
    have g := rt_good (tx := tx) (most := 9) (base := 10 * st.2.1) (a := b) st.2.2.1 st.1 hle o1 o3
    have gs := rt_skd (tx := tx) (most := 9) (base := 10 * st.2.1) (a := b) st.2.2.1 st.1 hsk
    revert hQ p2 g gs
    generalize rt tx len 9 (10 * st.2.1) b st.2.2.1 st.1 = R
    intro hQ p2 g gs
    have T2 := T1.tr (toM (Or.inl rfl) t2)
    have hX2 := hX.to T2 (by unfold mpA; omega) (by unfold mpF; omega)
    refine bk153_50 T2.wt (T2.ob hO) ?_
    cases R with
    | inl f =>
      rw [p2.1]
      exact ⟨fun c => absurd rfl c, fun _ => hQ m2 T2 p2⟩
    | inr x =>
      obtain ⟨a', row', pl'⟩ := x
      obtain ⟨g1, g2, g3, g4, g5, g6⟩ := g
      obtain ⟨p3, p4, p5, p6⟩ := p2
      have gs' : sk tx len a' = a' := gs
      rw [p4]
      refine ⟨fun _ => ?_, fun c => absurd (by decide) c⟩
      refine ev_next (by omega) T2.wt hX2 p3 g2 ?_
      rw [gs', mSetF_id (by rw [T2.wt.int (T2.ob hO) 3 (by decide), p3])]
      refine bk153_62 T2.wt (T2.ob hO) ?_
      have n2' : iF m2 o 14 = nI st.2.1 := by rw [t2.nf (by unfold mrF; omega), n2]
      rw [l62, nxV_eq h255 (by omega) (by omega), n2', p3]
      dsimp only at hQ
      have bad : ¬ ((a' < len ∧ tx a' = 62) ∧ st.2.1 < 10) → mEv (d - 1) 156 [.ref o, .int (nI a')] m2 (fun r m' => mEs (d - 1) 153 (mBase [.ref o]) g153 (84, [some (.ref o), some (.int (nI (10 * st.2.1)))], r.toList ++ [], m') Q) := by
        intro z
        rw [@if_neg _ (Classical.propDecidable _) z] at hQ
        refine ev_wrong (by omega) T2.wt (T2.ob hO) p4 ?_
        have T3 := (T2.sF (v := nI a') hO (f := 4) ⟨rfl, by omega⟩ (by decide)).sF (v := 0) hO (f := 5) ⟨rfl, by omega⟩ (by decide)
        refine bk153_84 T3.wt (T3.ob hO) (hQ _ T3 ⟨iF_s, by rw [iF_nf (by decide), iF_s], a', g2, by rw [iF_nf (by decide), iF_nf (by decide), p3]⟩)
      rw [l10, nIeq (by omega) (by omega), nIinc]
      refine ⟨fun z => bad (fun q => z q.1), fun z => ⟨fun z2 => ?_, fun z2 => bad (fun q => by omega)⟩⟩
      rw [Classical.not_not] at z
      rw [@if_pos _ (Classical.propDecidable _) ⟨z, by omega⟩] at hQ
      rintro m3 rfl
      have T3 := T2.sF (v := nI (a' + 1)) hO (f := 3) ⟨rfl, by omega⟩ (by decide)
      have hX3 := hX.to T3 (by unfold mpA; omega) (by unfold mpF; omega)
      refine ev_mTokens (row := st.2.2.2.1) (pl := pl') (a := a' + 1) (base := 10 * st.2.1) (most := 9) (by omega) T3.wt hX3 (T3.wt.arr (T3.ob hO) 7 rfl (by decide)) (by omega) iF_s (by rw [iF_nf (by decide), p4]) (by omega) (by omega) (by omega) (by rw [rI_F, t2.i (by omega)]; exact n4) o4 (by omega) (by rw [iF_nf (by decide), p6]) g4 ?_
      intro m4 t4 q4
      have T4 := T3.tr (toM (Or.inr (Or.inl rfl)) t4)
      refine bk153_106 T4.wt (T4.ob hO) ?_
      rintro m5 rfl
      have e14 : iF m4 o 14 = nI st.2.1 := by rw [t4.nf (by unfold mrF; omega), iF_nf (by decide), n2']
      rw [e14, nIinc]
      have T5 := T4.sF (v := nI (st.2.1 + 1)) hO (f := 14) ⟨rfl, by omega⟩ (by decide)
      refine hQ _ T5 ?_
      revert q4
      generalize rt tx len 9 (10 * st.2.1) (sk tx len (a' + 1)) st.2.2.2.1 pl' = R2
      intro q4
      cases R2 with
      | inl f =>
        obtain ⟨w1, w2, c, w3, w4⟩ := q4
        exact ⟨by rw [iF_nf (by decide), w1], by rw [iF_nf (by decide), w2], c, w3, by rw [iF_nf (by decide), w4]⟩
      | inr y =>
        obtain ⟨a2, row2, pl2⟩ := y
        obtain ⟨w1, w2, w3, w4⟩ := q4
        refine ⟨by rw [iF_nf (by decide), w1], by rw [iF_nf (by decide), w2], by rw [iF_nf (by decide), w4], iF_s, ?_, w3, ?_⟩
        · rw [rI_F, t4.i (by omega), rI_F]; exact p5
        · rw [rI_F, t4.i (by omega), rI_F, t2.i (by omega)]; exact n5
  · rw [Classical.not_not] at z
    rw [rpart_m z] at hQ
    rintro m2 rfl
    rw [nIinc]
    have T2 := T1.sF (v := nI (b + 1)) hO (f := 3) ⟨rfl, by omega⟩ (by decide)
    have hX2 := hX.to T2 (by unfold mpA; omega) (by unfold mpF; omega)
    refine ev_mTokens (row := st.2.2.2.2) (pl := st.1) (a := b + 1) (base := 0) (most := 99) (by omega) T2.wt hX2 (T2.wt.arr (T2.ob hO) 8 rfl (by decide)) (by omega) iF_s (by rw [iF_nf (by decide), hf1]) (by omega) (by omega) (by omega) n5 o5 (by omega) (by rw [iF_nf (by decide), n1]) o1 ?_
    intro m3 t3 p3
    have T3 := T2.tr (toM (Or.inr (Or.inr rfl)) t3)
    refine bk153_30 T3.wt (T3.ob hO) (hQ m3 T3 ?_)
    revert p3
    generalize rt tx len 99 0 (sk tx len (b + 1)) st.2.2.2.2 st.1 = R
    intro p3
    cases R with
    | inl f => exact p3
    | inr x =>
      obtain ⟨a', row', pl'⟩ := x
      obtain ⟨w1, w2, w3, w4⟩ := p3
      refine ⟨w1, w2, w4, ?_, ?_, ?_, w3⟩
      · rw [t3.nf (by unfold mrF; omega), iF_nf (by decide), n2]
      · rw [t3.i (by omega), rI_F]; exact n3
      · rw [t3.i (by omega), rI_F]; exact n4
theorem ev_changed (hd : 1 ≤ d) (hT : mWT m) (hO : m.1 o = some (.inr 8) ∧ o ≠ 0) (hQ : Q none (mSetF (mSetF (mSetF m o 21 (.int 0)) o 27 (.int 0)) o 45 (.int 0))) : mEv d 158 [.ref o] m Q := by
  refine mEv.at (by omega) G158 (Nat.le_of_ble_eq_true rfl) ?_
  refine bk158_0 hT hO ?_
  simp only [forall_eq]
  exact hQ
end MPB
