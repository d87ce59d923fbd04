/-! The model: layFlows(), flow(), kept(). -/
/-- flows of a kind as they lie in the model -/
def mFl (m : mMem) (o x W E : Nat) (D : Nat → Nat → Int) : Prop := match fZ W E D E with
  | none => m.2.2.1 (64 * o + 22) x = -2
  | some S => m.2.2.1 (64 * o + 22) x = nI S.1 ∧ ∀ i, i < S.1 → ∀ k, k < 10 → m.2.2.1 (64 * o + 23) (3000 * x + 10 * i + k) = nI (S.2 (fIx W S i) k)
def mlA (o k : Nat) : Prop := 64 * o + 21 ≤ k ∧ k ≤ 64 * o + 26
/-- of the other kind nothing changes -/
def mOt (m m' : mMem) (o x : Nat) : Prop := (∀ y, y < 2 → y ≠ x → m'.2.2.1 (64 * o + 21) y = m.2.2.1 (64 * o + 21) y ∧ m'.2.2.1 (64 * o + 22) y = m.2.2.1 (64 * o + 22) y) ∧ ∀ i, i < 6000 → i < 3000 * x ∨ 3000 * x + 3000 ≤ i → m'.2.2.1 (64 * o + 23) i = m.2.2.1 (64 * o + 23) i
theorem uU_1024 {W : Nat} {D : Nat → Nat → Int} {S : fwS} (hW : W ≤ 10) (hS : fOk W D S) : S.1 ≤ cct (uU W S) 1024 := by
  refine fb_holes (cct (uU W S) 1024) S.1 (fun r => cct (uU W S) (uB W (S.2 r))) (fun r hr => ?_) (fun i j hij hj e => ?_)
  · have h1 : uU W S (uB W (S.2 r)) := ⟨r, hr, rfl⟩
    have := cct_mono (C := uU W S) (show uB W (S.2 r) + 1 ≤ 1024 from uB_lt hW)
    rw [cct_t h1] at this
    exact this
  · have := cct_inj (C := uU W S) ⟨i, by omega, rfl⟩ ⟨j, hj, rfl⟩ e
    have := hS.2.2 i j (by omega) hj this
    omega
theorem uU_le {W : Nat} {D : Nat → Nat → Int} {S : fwS} (hW : W ≤ 10) (hS : fOk W D S) : ∀ s, cct (uU W S) s ≤ S.1 := by
  intro s
  -- each set has its row
  have hk : ∀ k, k < cct (uU W S) s → ∃ r, r < S.1 ∧ cct (uU W S) (uB W (S.2 r)) = k := by
    intro k h
    obtain ⟨i, h1, ⟨r, h2, h3⟩, h4⟩ := cct_kth s h
    exact ⟨r, h2, by rw [h3]; exact h4⟩
  refine fb_holes S.1 _ (fun k => if h : k < cct (uU W S) s then (hk k h).choose else 0) (fun k h => ?_) (fun i j hij hj e => ?_)
  · rw [dif_pos h]; exact (hk k h).choose_spec.1
  · have hi : i < cct (uU W S) s := by omega
    have e' : (if h : i < cct (uU W S) s then (hk i h).choose else 0) = (if h : j < cct (uU W S) s then (hk j h).choose else 0) := e
    rw [dif_pos hi, dif_pos hj] at e'
    have a := (hk i hi).choose_spec.2
    have b := (hk j hj).choose_spec.2
    rw [e'] at a
    omega
section MFW3
variable {d o n P T W E lr r e x : Nat} {D : Nat → Nat → Int} {tk pt : Nat → Nat → Nat} {fi row : Nat → Nat} {S A : fwS} {V : aV} {m : mMem} {Q : Option Value → mMem → Prop}
theorem ev_width {y : Int32} (hd : 1 ≤ d) (hT : mWT m) (hO : m.1 o = some (.inr 8) ∧ o ≠ 0) (hN : mNet m o P T tk pt) (hQ : Q (some (.int (nI (wP (y = 0) P T)))) m) : mEv d 200 [.ref o, .int y] m Q := by
  refine mEv.at (by omega) G200 (Nat.le_of_ble_eq_true rfl) ?_
  unfold wP at hQ
  refine bk200_0 hT hO ⟨fun c => ?_, fun c => ?_⟩
  · rw [hN.2.1]; rw [cif_f c] at hQ; exact hQ
  · rw [hN.1]; rw [cif_t (Classical.not_not.mp c)] at hQ; exact hQ
theorem mNet.j {B : Nat → Prop} {F : Nat → Nat → Prop} {m' : mMem} (h : mNet m o P T tk pt) (ht : mTo B F m m') (h2 : ¬ B (64 * o + 2)) (h3 : ¬ B (64 * o + 3)) (h4 : ¬ F o 6) (h5 : ¬ F o 7) : mNet m' o P T tk pt := h.to ht h2 h3 h4 h5
theorem flip01 (hx : x < 2) : (1 : Int32) - nI x = nI (1 - x) ∧ (nI (1 - x) = 0 ↔ ¬ nI x = 0) := by
  rcases Nat.lt_or_ge x 1 with h | h
  · obtain rfl : x = 0 := by omega
    decide
  · obtain rfl : x = 1 := by omega
    decide
theorem wP_flip (hx : x < 2) : wP (nI (1 - x) = 0) P T = wE (nI x = 0) P T := by
  unfold wP wE
  by_cases q : nI x = 0
  · rw [cif_f (fun z => (flip01 hx).2.mp z q), cif_t q]
  · rw [cif_t ((flip01 hx).2.mpr q), cif_f q]
theorem ev_startRows (hd : 2 ≤ d) (hT : mWT m) (hO : m.1 o = some (.inr 8) ∧ o ≠ 0) (hN : mNet m o P T tk pt) (hk : okNet P T tk pt fi) (hx : x < 2)
    (hQ : ∀ m', mTo (fun k => k = 64 * o + 24) (fun k f => k = o ∧ f = 39) m m' → iF m' o 39 = nI (wP (nI x = 0) P T) → mfR m' (64 * o + 24) (wP (nI x = 0) P T) (dF (nI x = 0) tk pt) (f00 (wP (nI x = 0) P T)) → Q none m') : mEv d 202 [.ref o, .int (nI x)] m Q := by
  obtain ⟨hW, hE⟩ := w10 (pl := nI x = 0) hk
  have hE2 := dF_E (pl := nI x = 0) hk
  have h1x := flip01 hx
  have hwf := wP_flip (P := P) (T := T) hx
  have dW : ∀ k e, wP (nI x = 0) P T ≤ k → dF (nI x = 0) tk pt k e = 0 := by
    intro k e h
    unfold wP at h
    unfold dF
    have hz := hk.2.2.2.2.2.1
    by_cases q : nI x = 0
    · rw [cif_t q] at h ⊢
      have := hz e k (Or.inl h)
      rw [this.1, this.2]; rfl
    · rw [cif_f q] at h ⊢
      have := hz k e (Or.inr h)
      rw [this.1, this.2]; rfl
  have ch1 : ∀ r, r < wP (nI x = 0) P T → ∀ e, chI (wP (nI x = 0) P T) (dF (nI x = 0) tk pt) ((f00 (wP (nI x = 0) P T)).2 r) e = dF (nI x = 0) tk pt r e := by
    intro r hr e
    unfold chI
    have gen : ∀ n, fb_si (fun k => (((f00 (wP (nI x = 0) P T)).2 r k : Nat) : Int) * dF (nI x = 0) tk pt k e) n = if r < n then dF (nI x = 0) tk pt r e else 0 := by
      intro n
      induction n with
      | zero => rw [if_neg (Nat.not_lt_zero _)]; rfl
      | succ n ih =>
        rw [fb_si_succ, ih]
        show _ + ((if n = r then 1 else 0 : Nat) : Int) * dF (nI x = 0) tk pt n e = _
        by_cases q : n = r
        · subst q
          rw [if_neg (Nat.lt_irrefl _), if_pos rfl, if_pos (Nat.lt_succ_self _), Int.zero_add]
          exact Int.one_mul _
        · rw [if_neg q]
          by_cases q2 : r < n
          · rw [if_pos q2, if_pos (by omega)]; show _ + (0 : Int) * _ = _; rw [Int.zero_mul, Int.add_zero]
          · rw [if_neg q2, if_neg (by omega)]; show _ + (0 : Int) * _ = _; rw [Int.zero_mul, Int.add_zero]
    rw [gen, if_pos hr]
  refine mEv.at (by omega) G202 (Nat.le_of_ble_eq_true rfl) ?_
  refine bk202_0 hT hO ?_
  refine ev_width (by omega) hT hO hN ?_
  refine bk202_6 hT hO hO ?_
  intro m1 em1
  obtain ⟨t1, e39⟩ := sF1 em1 hT hO (by decide)
  generalize wP (nI x = 0) P T = W at *
  generalize wE (nI x = 0) P T = E at *
  refine upto (e := W) (X := fun r => ∀ (x3 x4 x5 x6 : Option Value) (m' : mMem), mTo (fun k => k = 64 * o + 24) (fun _ _ => False) m1 m' → (∀ q, q < r → mRw m' (64 * o + 24) W (dF (nI x = 0) tk pt) q ((f00 W).2 q)) → mEs (d - 1) 202 o g202 (11, [some (.ref o), some (.int (nI x)), some (.int (nI r)), x3, x4, x5, x6], [], m') Q) ?_ ?_ 0 (Nat.zero_le _) _ _ _ _ m1 (mTo.rf t1.wt) (fun q hq => absurd hq (Nat.not_lt_zero _))
  · intro x3 x4 x5 x6 m' t' g1
    refine bk202_11 t'.wt (t'.ob (t1.ob hO)) ?_
    rw [t'.nf id, e39, nIle (by omega) (by omega)]
    refine ⟨fun _ => hQ m' ((t1.mono (fun _ h => h.elim) (fun _ _ h => h)).tr (t'.mono (fun _ h => h) (fun _ _ h => h.elim))) (by rw [t'.nf id]; exact e39) g1, fun c => absurd (Nat.le_refl _) c⟩
  · intro r hr ih x3 x4 x5 x6 m' t' g1
    refine bk202_11 t'.wt (t'.ob (t1.ob hO)) ?_
    rw [t'.nf id, e39, nIle (by omega) (by omega)]
    refine ⟨fun c => by omega, fun _ => ?_⟩
    refine upto (e := 10) (X := fun k => ∀ (x4 x5 x6 : Option Value) (m' : mMem), mTo (fun k => k = 64 * o + 24) (fun _ _ => False) m1 m' → (∀ q, q < r → mRw m' (64 * o + 24) W (dF (nI x = 0) tk pt) q ((f00 W).2 q)) → (∀ j, j < k → m'.2.2.2.1 (64 * o + 24) (20 * r + j) = lN ((f00 W).2 r j)) → (∀ j, j < k → m'.2.2.2.1 (64 * o + 24) (20 * r + 10 + j) = iL (dF (nI x = 0) tk pt r j)) → mEs (d - 1) 202 o g202 (21, [some (.ref o), some (.int (nI x)), some (.int (nI r)), some (.int (nI k)), x4, x5, x6], [], m') Q) ?_ ?_ 0 (Nat.zero_le _) _ _ _ m' t' g1 (fun j hj => absurd hj (Nat.not_lt_zero _)) (fun j hj => absurd hj (Nat.not_lt_zero _))
    · intro x4 x5 x6 m2 t2 p1 p2 p3
      refine bk202_21 t2.wt (t2.ob (t1.ob hO)) ⟨fun _ => ?_, fun c => absurd (by decide) c⟩
      rintro v rfl
      rw [nIinc]
      refine ih _ _ _ _ m2 t2 (fun q hq => ?_)
      by_cases e : q = r
      · subst e
        exact ⟨p2, fun e he => by rw [p3 e he, ch1 q hr e]⟩
      · exact p1 q (by omega)
    · intro k hk' ihk x4 x5 x6 m2 t2 p1 p2 p3
      have O2 := t2.ob (t1.ob hO)
      -- the change behind the number
      have chg : ∀ (m3 : mMem), mTo (fun k => k = 64 * o + 24) (fun _ _ => False) m1 m3 → (∀ q, q < r → mRw m3 (64 * o + 24) W (dF (nI x = 0) tk pt) q ((f00 W).2 q)) → (∀ j, j < k + 1 → m3.2.2.2.1 (64 * o + 24) (20 * r + j) = lN ((f00 W).2 r j)) → (∀ j, j < k → m3.2.2.2.1 (64 * o + 24) (20 * r + 10 + j) = iL (dF (nI x = 0) tk pt r j)) → mEv (d - 1) 200 [.ref o, .int (1 - nI x)] m3 (fun r' m' => mEs (d - 1) 202 o g202 (56, [some (.ref o), some (.int (nI x)), some (.int (nI r)), some (.int (nI k)), x4, x5, x6], r'.toList ++ [.int (nI k)], m') Q) := by
        intro m3 t3 p1 p2 p3
        have O3 := t3.ob (t1.ob hO)
        have N3 := (hN.to t1 id id (by omega) (by omega)).to t3 (by omega) (by omega) id id
        rw [h1x.1]
        refine ev_width (by omega) t3.wt O3 N3 ?_
        rw [hwf]
        have sto : ∀ (v : Int64) (x4 x5 x6 : Option Value), v = iL (dF (nI x = 0) tk pt r k) → ∀ m4, m4 = mSetJ m3 (64 * o + 24) (vp_updL (m3.2.2.2.1 (64 * o + 24)) (20 * r + 10 + k) v) → mEs (d - 1) 202 o g202 (21, [some (.ref o), some (.int (nI x)), some (.int (nI r)), some (.int (nI (k + 1))), x4, x5, x6], [], m4) Q := by
          intro v x4 x5 x6 hv m4 em4
          obtain ⟨t4, b24⟩ := sJ1 em4 t3.wt
          refine ihk _ _ _ m4 (t3.tr t4) (fun q hq => ?_) (fun j hj => ?_) (fun j hj => ?_)
          · rw [mRw_iff, b24]
            intro j hj
            rw [upL_n (by omega)]
            exact mRw_iff.mp (p1 q hq) j hj
          · rw [b24, upL_n (by omega)]; exact p2 j hj
          · rw [b24]
            by_cases e : j = k
            · subst e; rw [upL_s, hv]
            · rw [upL_n (by omega)]; exact p3 j (by omega)
        refine bk202_56 t3.wt O3 ?_
        rw [nIle (by omega) (by omega), l20, l10, nI_mul, nI_add, nI_add, nI_clamp (by omega), nIinc]
        have hin : mIn (nI (20 * r + 10 + k)) 6020 = true := (nIin_iff (by omega)).mpr (by omega)
        have A24 : m3.1 (64 * o + 24) = some (.inl (.long, 6020)) ∧ 64 * o + 24 ≠ 0 := t3.wt.arr O3 23 rfl (by decide)
        refine ⟨fun cE => ?_, fun cE => ?_⟩
        · have z0 : (0 : Int64) = iL (dF (nI x = 0) tk pt r k) := by rw [hE2 r k cE]; rfl
          refine ⟨fun _ => ⟨fun _ => ⟨hin, ?_⟩, fun _ => ⟨hin, ?_⟩⟩, fun _ => ⟨fun _ => ⟨hin, ?_⟩, fun _ => ⟨hin, ?_⟩⟩⟩
          · rintro m4 em4 v rfl; exact sto 0 _ _ _ z0 m4 em4
          · rintro m4 em4 v rfl; exact sto 0 _ _ _ z0 m4 em4
          · rintro m4 em4 v rfl; exact sto 0 _ _ _ z0 m4 em4
          · rintro m4 em4 v rfl; exact sto 0 _ _ _ z0 m4 em4
        · refine ⟨fun cx => ⟨fun _ => ?_, fun c => absurd cx c⟩, fun cx => ⟨fun c => absurd c cx, fun _ => ?_⟩⟩
          · refine ev_ptM (by omega) t3.wt O3 N3 (by omega) (by omega) ?_
            refine bk202_114 t3.wt O3 A24 ?_
            refine ev_tkM (by omega) t3.wt O3 N3 (by omega) (by omega) ?_
            refine bk202_122 t3.wt O3 A24 ?_
            rw [nI_clamp (by omega), w_sub (hk.2.2.2.1 r k) (hk.2.2.1 r k), nIinc]
            refine ⟨hin, ?_⟩
            rintro m4 em4 v rfl
            exact sto _ _ _ _ (by unfold dF; rw [cif_f cx]) m4 em4
          · refine ev_ptM (by omega) t3.wt O3 N3 (by omega) (by omega) ?_
            refine bk202_114 t3.wt O3 A24 ?_
            refine ev_tkM (by omega) t3.wt O3 N3 (by omega) (by omega) ?_
            refine bk202_122 t3.wt O3 A24 ?_
            rw [nI_clamp (by omega), w_sub (hk.2.2.2.1 k r) (hk.2.2.1 k r), nIinc]
            refine ⟨hin, ?_⟩
            rintro m4 em4 v rfl
            exact sto _ _ _ _ (by unfold dF; rw [cif_t (Classical.not_not.mp cx)]) m4 em4
      refine bk202_21 t2.wt O2 ?_
      rw [l10, nIle (by omega) (by omega), nIeq (by omega) (by omega), l20, nI_mul, nI_add, nI_clamp (by omega)]
      have hin : mIn (nI (20 * r + k)) 6020 = true := (nIin_iff (by omega)).mpr (by omega)
      have put : ∀ (v : Int64), v = lN ((f00 W).2 r k) → ∀ m3, m3 = mSetJ m2 (64 * o + 24) (vp_updL (m2.2.2.2.1 (64 * o + 24)) (20 * r + k) v) → mEv (d - 1) 200 [.ref o, .int (1 - nI x)] m3 (fun r' m' => mEs (d - 1) 202 o g202 (56, [some (.ref o), some (.int (nI x)), some (.int (nI r)), some (.int (nI k)), x4, x5, x6], r'.toList ++ [.int (nI k)], m') Q) := by
        intro v hv m3 em3
        obtain ⟨t3, b24⟩ := sJ1 em3 t2.wt
        refine chg m3 (t2.tr t3) (fun q hq => ?_) (fun j hj => ?_) (fun j hj => ?_)
        · rw [mRw_iff, b24]
          intro j hj
          rw [upL_n (by omega)]
          exact mRw_iff.mp (p1 q hq) j hj
        · rw [b24]
          by_cases e : j = k
          · subst e; rw [upL_s, hv]
          · rw [upL_n (by omega)]; exact p2 j (by omega)
        · rw [b24, upL_n (by omega)]; exact p3 j hj
      refine ⟨fun c => by omega, fun _ => ⟨fun ck => ⟨hin, fun m3 em3 => put 0 ?_ m3 em3⟩, fun ck => ⟨hin, fun m3 em3 => put 1 ?_ m3 em3⟩⟩⟩
      · show _ = lN (if k = r then 1 else 0)
        rw [if_neg ck]; rfl
      · show _ = lN (if k = r then 1 else 0)
        rw [if_pos (Classical.not_not.mp ck)]; rfl
theorem ev_layFlows (hd : 4 ≤ d) (hT : mWT m) (hO : m.1 o = some (.inr 8) ∧ o ≠ 0) (hN : mNet m o P T tk pt) (hk : okNet P T tk pt fi) (hx : x < 2) (hF : m.2.2.1 (64 * o + 21) x = 0 ∨ mFl m o x (wP (nI x = 0) P T) (wE (nI x = 0) P T) (dF (nI x = 0) tk pt))
    (hQ : ∀ m', mTo (mlA o) (moF o) m m' → mOt m m' o x → mFl m' o x (wP (nI x = 0) P T) (wE (nI x = 0) P T) (dF (nI x = 0) tk pt) → Q none m') : mEv d 201 [.ref o, .int (nI x)] m Q := by
  obtain ⟨hW, hE⟩ := w10 (pl := nI x = 0) hk
  have hE2 := dF_E (pl := nI x = 0) hk
  have hwf := wP_flip (P := P) (T := T) hx
  have h1x := flip01 hx
  have fok := fZ_ok (W := wP (nI x = 0) P T) (E := wE (nI x = 0) P T) (D := dF (nI x = 0) tk pt) hW (dF_9 hk _) hE2
  refine mEv.at (by omega) G201 (Nat.le_of_ble_eq_true rfl) ?_
  refine bk201_0 hT hO ?_
  rw [nI_clamp (by omega)]
  refine ⟨(nIin_iff (by omega)).mpr hx, fun c => ⟨(nIin_iff (by omega)).mpr hx, fun m1 em1 m3 em3 => ?_⟩, fun c => ?_⟩
  · obtain ⟨t1, b21⟩ := sI1 em1 hT
    obtain ⟨t3, e42⟩ := sF1 em3 t1.wt (t1.ob hO) (by decide)
    have T3 : mTo (mlA o) (moF o) m m3 := (t1.mono (fun k h => by unfold mlA; omega) (fun _ _ h => h.elim)).tr (t3.mono (fun _ h => h.elim) (fun k f h => ⟨h.1, by omega⟩))
    have Ot3 : mOt m m3 o x := by
      refine ⟨fun y hy hne => ⟨by rw [t3.i id, b21, up_n hne], by rw [t3.i id, t1.i (by omega)]⟩, fun i _ _ => by rw [t3.i id, t1.i (by omega)]⟩
    have N3 := (hN.to t1 (by omega) (by omega) id id).to t3 id id (by omega) (by omega)
    refine ev_startRows (by omega) t3.wt (t3.ob (t1.ob hO)) N3 hk hx ?_
    intro m4 t4 e39 R4
    have otJ : ∀ {B : Nat → Prop} {F : Nat → Nat → Prop} {ma mb : mMem}, mOt m ma o x → mTo B F ma mb → ¬ B (64 * o + 21) → ¬ B (64 * o + 22) → ¬ B (64 * o + 23) → mOt m mb o x := by
      intro B F ma mb h ht h1 h2 h3
      refine ⟨fun y hy hne => ⟨by rw [ht.i h1]; exact (h.1 y hy hne).1, by rw [ht.i h2]; exact (h.1 y hy hne).2⟩, fun i hi hi2 => by rw [ht.i h3]; exact h.2 i hi hi2⟩
    have T4 : mTo (mlA o) (moF o) m m4 := T3.tr (t4.mono (fun k h => by unfold mlA; omega) (fun k f h => ⟨h.1, by omega⟩))
    have Ot4 := otJ Ot3 t4 (by omega) (by omega) (by omega)
    refine bk201_27 T4.wt (T4.ob hO) ?_
    generalize wP (nI x = 0) P T = W at *
    generalize wE (nI x = 0) P T = E at *
    generalize dF (nI x = 0) tk pt = D at *
    -- the end: the flows in their order
    have fin : ∀ (x4 x5 : Option Value) (m' : mMem), mTo (mlA o) (moF o) m m' → mOt m m' o x → mfM m' o W D (fZ W E D E) → ((iF m' o 42 = 0) → (mIn (nI x) 2 = true) ∧ (∀ (m_1 : mMem), m_1 = (mSetI m' (64 * o + 22) (upd (m'.2.2.1 (64 * o + 22)) x (iF m' o 39))) → mEs (d - 1) 201 o g201 (84, [some (.ref o), some (.int (nI x)), some (.int 0), some (.int 1), x4, x5], [], m_1) Q)) ∧ (¬ (iF m' o 42 = 0) → (mIn (nI x) 2 = true) ∧ (∀ (m_3 : mMem), m_3 = (mSetI m' (64 * o + 22) (upd (m'.2.2.1 (64 * o + 22)) x ((-2)))) → mEs (d - 1) 201 o g201 (84, [some (.ref o), some (.int (nI x)), some (.int 0), some (.int 1), x4, x5], [], m_3) Q)) := by
      intro x4 x5 m' T' Ot' M'
      have hin : mIn (nI x) 2 = true := (nIin_iff (by omega)).mpr hx
      have otS : ∀ (v : Int32) (m2 : mMem), m2 = mSetI m' (64 * o + 22) (upd (m'.2.2.1 (64 * o + 22)) x v) → mOt m m2 o x := by
        intro v m2 em2
        obtain ⟨t2, b22⟩ := sI1 em2 T'.wt
        refine ⟨fun y hy hne => ⟨by rw [t2.i (by omega)]; exact (Ot'.1 y hy hne).1, by rw [b22, up_n hne]; exact (Ot'.1 y hy hne).2⟩, fun i hi hi2 => by rw [t2.i (by omega)]; exact Ot'.2 i hi hi2⟩
      cases hz : fZ W E D E with
      | none =>
        rw [hz] at M'
        have M2 : iF m' o 42 = 1 := M'
        refine ⟨fun c => ?_, fun _ => ⟨hin, fun m2 em2 => ?_⟩⟩
        · rw [M2] at c; exact absurd c (by decide)
        · obtain ⟨t2, b22⟩ := sI1 em2 T'.wt
          have T2 : mTo (mlA o) (moF o) m m2 := T'.tr (t2.mono (fun k h => by unfold mlA; omega) (fun _ _ h => h.elim))
          have q : Q none m2 := hQ m2 T2 (otS _ m2 em2) (by unfold mFl; rw [hz]; show m2.2.2.1 (64 * o + 22) x = -2; rw [b22, up_s])
          refine bk201_84 T2.wt (T2.ob hO) ⟨fun c => absurd c (by decide), fun _ => ⟨fun _ => q, fun c => ?_⟩⟩
          rw [t2.nf id, M2] at c; exact absurd (by decide) c
      | some S =>
        rw [hz] at M'
        obtain ⟨y42, y39, yR⟩ := M'
        have hS := fok E S hz
        have h300 := hS.1
        refine ⟨fun _ => ⟨hin, fun m2 em2 => ?_⟩, fun c => absurd y42 c⟩
        rw [y39] at em2
        obtain ⟨t2, b22⟩ := sI1 em2 T'.wt
        have T2 : mTo (mlA o) (moF o) m m2 := T'.tr (t2.mono (fun k h => by unfold mlA; omega) (fun _ _ h => h.elim))
        have Ot2 := otS _ m2 em2
        have R2 : mfR m2 (64 * o + 24) W D S := yR.to t2 (by omega)
        have z42 : iF m2 o 42 = 0 := by rw [t2.nf id]; exact y42
        have z39 : iF m2 o 39 = nI S.1 := by rw [t2.nf id]; exact y39
        have z22 : m2.2.2.1 (64 * o + 22) x = nI S.1 := by rw [b22, up_s]
        have cle := uU_le (W := W) (D := D) (S := S) hW hS
        have u0 : ¬ uU W S 0 := fun ⟨r, hr, e⟩ => uB_0 (hS.2.1 r hr) e
        have fIx_at : ∀ r, r < S.1 → fIx W S (cct (uU W S) (uB W (S.2 r))) = r := by
          intro r hr
          unfold fIx
          rw [kth_of (C := uU W S) (uB_lt hW) ⟨r, hr, rfl⟩]
          refine lsN_eq (by omega) (fun _ => rfl) (fun j hj e => ?_)
          have := hS.2.2 j r (by omega) hr e
          omega
        have go : ∀ s, s ≤ 1024 → 1 ≤ s → ∀ (x4 x5 : Option Value) (m' : mMem), mTo (fun k => k = 64 * o + 23) (fun _ _ => False) m2 m' → mOt m m' o x → (∀ i, i < cct (uU W S) s → ∀ k, k < 10 → m'.2.2.1 (64 * o + 23) (3000 * x + 10 * i + k) = nI (S.2 (fIx W S i) k)) → mEs (d - 1) 201 o g201 (84, [some (.ref o), some (.int (nI x)), some (.int (nI (cct (uU W S) s))), some (.int (nI s)), x4, x5], [], m') Q := by
          refine upto ?_ ?_
          · intro _ x4 x5 m' t' ot' g1
            have T' : mTo (mlA o) (moF o) m m' := T2.tr (t'.mono (fun k h => by unfold mlA; omega) (fun _ _ h => h.elim))
            refine bk201_84 T'.wt (T'.ob hO) ⟨fun _ => ?_, fun c => absurd (by decide) c⟩
            refine hQ m' T' ot' ?_
            unfold mFl
            rw [hz]
            exact ⟨by rw [t'.i (by omega)]; exact z22, fun i hi k hk' => g1 i (Nat.lt_of_lt_of_le hi (uU_1024 hW hS)) k hk'⟩
          · intro s hs ih h1 x4 x5 m' t' ot' g1
            have T' : mTo (mlA o) (moF o) m m' := T2.tr (t'.mono (fun k h => by unfold mlA; omega) (fun _ _ h => h.elim))
            have hcs := cle s
            refine bk201_84 T'.wt (T'.ob hO) ?_
            rw [l1024, nIle (by omega) (by omega), t'.nf id, z42]
            refine ⟨fun c => by omega, fun _ => ⟨fun c => absurd rfl c, fun _ => ?_⟩⟩
            -- over the rows
            have rows : ∀ r, r ≤ S.1 → ∀ (n : Nat) (x5 : Option Value) (m' : mMem), mTo (fun k => k = 64 * o + 23) (fun _ _ => False) m2 m' → mOt m m' o x → ((n = cct (uU W S) s ∧ ∀ q, q < r → ¬ uB W (S.2 q) = s) ∨ (n = cct (uU W S) s + 1 ∧ ∃ q, q < r ∧ uB W (S.2 q) = s)) → (∀ i, i < n → ∀ k, k < 10 → m'.2.2.1 (64 * o + 23) (3000 * x + 10 * i + k) = nI (S.2 (fIx W S i) k)) → mEs (d - 1) 201 o g201 (101, [some (.ref o), some (.int (nI x)), some (.int (nI n)), some (.int (nI s)), some (.int (nI r)), x5], [], m') Q := by
              refine upto ?_ ?_
              · intro n x5 m' t' ot' hn g1
                have T' : mTo (mlA o) (moF o) m m' := T2.tr (t'.mono (fun k h => by unfold mlA; omega) (fun _ _ h => h.elim))
                refine bk201_101 T'.wt (T'.ob hO) ?_
                rw [t'.nf id, z39, nIle (by omega) (by omega), nIinc]
                refine ⟨fun _ => ?_, fun c => absurd (Nat.le_refl _) c⟩
                rintro v rfl
                have en : n = cct (uU W S) (s + 1) := by
                  rcases hn with ⟨h2, h3⟩ | ⟨h2, h3⟩
                  · rw [cct_f (fun ⟨q, hq, e⟩ => h3 q hq e), h2]
                  · rw [cct_t h3, h2]
                rw [en] at g1 ⊢
                exact ih (by omega) _ _ m' t' ot' g1
              · intro r hr ihr n x5 m' t' ot' hn g1
                have T' : mTo (mlA o) (moF o) m m' := T2.tr (t'.mono (fun k h => by unfold mlA; omega) (fun _ _ h => h.elim))
                have Rt := R2.to t' (by omega)
                have hro := hS.2.1 r hr
                have ul : uB W (S.2 r) < 1024 := uB_lt hW
                refine bk201_101 T'.wt (T'.ob hO) ?_
                rw [t'.nf id, z39, nIle (by omega) (by omega)]
                refine ⟨fun c => by omega, fun _ => ?_⟩
                refine ev_support (row := S.2 r) (W := W) (by omega) T'.wt (T'.ob hO) (T'.wt.arr (T'.ob hO) 23 rfl (by decide)) (by omega) hW (Rt r hr).1 hro.1 (fun k => by have := hro.2.1 k; omega) ?_
                refine bk201_120 T'.wt (T'.ob hO) ?_
                rw [nIeq (by omega) (by omega), nIinc]
                refine ⟨fun cs => ?_, fun cs => ?_⟩
                · rintro v rfl
                  refine ihr n _ m' t' ot' ?_ g1
                  rcases hn with ⟨h2, h3⟩ | ⟨h2, q, h3, h4⟩
                  · refine Or.inl ⟨h2, fun q hq e => ?_⟩
                    by_cases eq : q = r
                    · subst eq; exact cs e
                    · exact h3 q (by omega) e
                  · exact Or.inr ⟨h2, q, by omega, h4⟩
                · have cs' := Classical.not_not.mp cs
                  have hn' : n = cct (uU W S) s := by
                    rcases hn with ⟨h2, _⟩ | ⟨_, q, h3, h4⟩
                    · exact h2
                    · have := hS.2.2 q r (by omega) hr (by rw [h4, cs'])
                      omega
                  have hnS : n < S.1 := by
                    have h5 : uU W S s := ⟨r, hr, cs'⟩
                    have h6 := cle (s + 1)
                    rw [cct_t h5] at h6
                    omega
                  have hfx : fIx W S n = r := by rw [hn', ← cs']; exact fIx_at r hr
                  -- its ten numbers
                  refine upto (e := 10) (X := fun k => ∀ m', mTo (fun k => k = 64 * o + 23) (fun _ _ => False) m2 m' → mOt m m' o x → (∀ i, i < n → ∀ k, k < 10 → m'.2.2.1 (64 * o + 23) (3000 * x + 10 * i + k) = nI (S.2 (fIx W S i) k)) → (∀ j, j < k → m'.2.2.1 (64 * o + 23) (3000 * x + 10 * n + j) = nI (S.2 r j)) → mEs (d - 1) 201 o g201 (127, [some (.ref o), some (.int (nI x)), some (.int (nI n)), some (.int (nI s)), some (.int (nI r)), some (.int (nI k))], [], m') Q) ?_ ?_ 0 (Nat.zero_le _) m' t' ot' g1 (fun j hj => absurd hj (Nat.not_lt_zero _))
                  · intro m5 t5 ot5 g5 g6
                    have T5 : mTo (mlA o) (moF o) m m5 := T2.tr (t5.mono (fun k h => by unfold mlA; omega) (fun _ _ h => h.elim))
                    refine bk201_127 T5.wt (T5.ob hO) ⟨fun _ => ?_, fun c => absurd (by decide) c⟩
                    rintro v rfl v2 rfl
                    rw [nIinc, nIinc]
                    refine ihr (n + 1) _ m5 t5 ot5 (Or.inr ⟨by omega, r, Nat.lt_succ_self _, cs'⟩) (fun i hi k hk' => ?_)
                    by_cases eq : i = n
                    · subst eq; rw [hfx]; exact g6 k hk'
                    · exact g5 i (by omega) k hk'
                  · intro k hk' ihk m5 t5 ot5 g5 g6
                    have T5 : mTo (mlA o) (moF o) m m5 := T2.tr (t5.mono (fun k h => by unfold mlA; omega) (fun _ _ h => h.elim))
                    have R5 := R2.to t5 (by omega)
                    have hv := hro.2.1 k
                    refine bk201_127 T5.wt (T5.ob hO) ?_
                    rw [l10, nIle (by omega) (by omega), l20, nI_mul, nI_add, l3000, nI_mul, nI_mul, nI_add, nI_add, nI_clamp (by omega), nI_clamp (by omega), (R5 r hr).1 k hk', n_Ln (by omega), nIinc, nIinc, nIinc]
                    refine ⟨fun c => by omega, fun _ => ⟨(nIin_iff (by omega)).mpr (by omega), (nIin_iff (by omega)).mpr (by omega), fun m6 em6 => ?_⟩⟩
                    obtain ⟨t6, b23⟩ := sI1 em6 T5.wt
                    rintro v rfl
                    refine ihk m6 (t5.tr t6) ⟨fun y hy hne => ⟨by rw [t6.i (by omega)]; exact (ot5.1 y hy hne).1, by rw [t6.i (by omega)]; exact (ot5.1 y hy hne).2⟩, fun i hi hi2 => by rw [b23, up_n (by omega)]; exact ot5.2 i hi hi2⟩ (fun i hi j hj => ?_) (fun j hj => ?_)
                    · rw [b23, up_n (by omega)]; exact g5 i hi j hj
                    · rw [b23]
                      by_cases eq : j = k
                      · subst eq; rw [up_s]
                      · rw [up_n (by omega)]; exact g6 j (by omega)
            exact rows 0 (Nat.zero_le _) _ _ m' t' ot' (Or.inl ⟨rfl, fun q hq => absurd hq (Nat.not_lt_zero _)⟩) g1
        have := go 1 (by omega) (Nat.le_refl _) x4 x5 m2 (mTo.rf T2.wt) Ot2 (fun i hi => by rw [cct_f u0] at hi; exact absurd hi (Nat.not_lt_zero _))
        rw [cct_f u0] at this
        exact this
    -- step by step
    have go : ∀ e, e ≤ E → ∀ (x3 x4 x5 : Option Value) (m' : mMem), mTo (mlA o) (moF o) m m' → mOt m m' o x → mNet m' o P T tk pt → mfM m' o W D (fZ W E D e) → mEs (d - 1) 201 o g201 (29, [some (.ref o), some (.int (nI x)), some (.int (nI e)), x3, x4, x5], [], m') Q := by
      refine upto ?_ ?_
      · intro x3 x4 x5 m' T' ot' N' M'
        refine bk201_29 T'.wt (T'.ob hO) ?_
        rw [h1x.1]
        refine ev_width (by omega) T'.wt (T'.ob hO) N' ?_
        rw [hwf]
        refine bk201_37 T'.wt (T'.ob hO) ?_
        rw [nIle (by omega) (by omega), nI_clamp (by omega)]
        exact ⟨fun _ => fin _ _ m' T' ot' M', fun c => absurd (Nat.le_refl _) c⟩
      · intro e he ih x3 x4 x5 m' T' ot' N' M'
        refine bk201_29 T'.wt (T'.ob hO) ?_
        rw [h1x.1]
        refine ev_width (by omega) T'.wt (T'.ob hO) N' ?_
        rw [hwf]
        refine bk201_37 T'.wt (T'.ob hO) ?_
        rw [nIle (by omega) (by omega), nI_clamp (by omega)]
        refine ⟨fun c => by omega, fun _ => ?_⟩
        cases hz : fZ W E D e with
        | none =>
          rw [hz] at M'
          have M2 : iF m' o 42 = 1 := M'
          have hzE := fZ_none (W := W) (E := E) (D := D) (E - e) e hz
          rw [show e + (E - e) = E by omega] at hzE
          refine ⟨fun _ => fin _ _ m' T' ot' (by rw [hzE]; exact M2), fun c => ?_⟩
          rw [M2] at c; exact absurd (by decide) c
        | some S =>
          rw [hz] at M'
          refine ⟨fun c => absurd M'.1 c, fun _ => ?_⟩
          refine ev_oneStep (W := W) (E := E) (D := D) (S := S) (by omega) T'.wt (T'.ob hO) hW hE hE2 (fok e S hz) M' he ?_
          intro m2 t2 M2
          have T2 : mTo (mlA o) (moF o) m m2 := T'.tr (t2.mono (fun k h => by unfold moA at h; unfold mlA; omega) (fun _ _ h => h))
          refine bk201_52 T2.wt (T2.ob hO) ?_
          rintro v rfl
          rw [nIinc]
          refine ih _ _ _ m2 T2 (otJ ot' t2 (by unfold moA; omega) (by unfold moA; omega) (by unfold moA; omega)) (N'.to t2 (by unfold moA; omega) (by unfold moA; omega) (by unfold moF; omega) (by unfold moF; omega)) ?_
          rw [show fZ W E D (e + 1) = (match fZ W E D e with | none => none | some S => cif (farS W E D S e) none (some (fSt W D S e))) from rfl, hz]
          exact M2
    exact go 0 (Nat.zero_le _) _ _ _ m4 T4 Ot4 (N3.to t4 (by omega) (by omega) (by omega) (by omega)) ⟨by rw [t4.nf (by omega)]; exact e42, e39, R4⟩
  · rcases hF with h | h
    · exact absurd h c
    · exact hQ m (mTo.rf hT) ⟨fun _ _ _ => ⟨rfl, rfl⟩, fun _ _ _ => rfl⟩ h
end MFW3
