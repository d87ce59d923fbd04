/-! The law: the text, and net(). -/
section FT
variable {L q : Nat} {xs : Nat → Int32} {Lw : mSt → Prop} {m : mMem} {x5 x6 : Option Value}
variable {c n n2 P T len nv mv : Nat} {tk pt : Nat → Nat → Nat} {fi : Nat → Nat} {V : aV} {tx tx' : Nat → Nat} {m' : mMem}
theorem ag_sc {A : Nat → Prop} {F : Nat → Nat → Prop} (t : mTo A F m m') (hA : ∀ k, A k → 192 ≤ k) (hF : ∀ k f, F k f → k = 65) : agN 2 m m' := (t.fr (F := F) (N := A) (fun _ z => z) (fun _ _ z => Or.inl z)).ag (fun a ha z => by have := hA a z; unfold gwN at ha; omega) (fun f _ z => by have := hF _ _ z; omega)
/-- the class's text changes -/
theorem gC.txt {A : Nat → Prop} {F : Nat → Nat → Prop} {len' : Nat} (h : gC L xs c m n n2 P T tk pt fi V tx len nv mv) (t : mTo A F m m') (hA : ∀ k, A k → k = 64 * 65 + 1) (hF : ∀ k f, F k f → k = 65) (hx : cTxt m' 65 tx' len') : gC L xs c m' n n2 P T tk pt fi V tx' len' nv mv := by
  obtain ⟨a1, a2, a3, a4, ⟨b0, b1, b2, b3, b4, b5, b6, b7⟩, ⟨c1, c2, ⟨c3, c4⟩, c5, c6⟩⟩ := h
  have g : gFr (fun k f => k = 65) (fun a => a = 4161) 0 0 m m' := t.fr (fun k h => by have := hA k h; omega) (fun k f h => Or.inl (hF k f h))
  have g1 := g.2.2.2.2.2.1
  have g2 := g.2.2.2.2.2.2
  have no : ∀ s, 7 ≤ s → s ≤ 12 → ∀ a, gwN (64 * 1 + s) a → ¬ a = 4161 := fun k h1 h2 a h3 => by unfold gwN at h3; omega
  refine ⟨t.wt, a2.fr g (by omega) (by omega), by omega, by omega, ⟨b0, b1.fr g (fun a ha => by unfold gwN at ha; omega) (fun f => by omega) (fun a ha => by omega) (fun f _ => by omega), by rw [g.fl (by omega) (by omega)]; exact b2, hx, by rw [g.fl (by omega) (by omega)]; exact b4, by rw [t.ty]; exact b5, by rw [g.nf (by omega) (by omega)]; exact b6, by rw [g.nf (by omega) (by omega)]; exact b7⟩, ?_⟩
  exact ⟨c1.fr g lcl_T lcl_cov (by omega) (by omega) (no 7 (by omega) (by omega)) (fun f => by omega), c2.fr g lcl_T lcl_rch (by omega) (by omega) (no 8 (by omega) (by omega)) (fun f => by omega), ⟨c3.fr g lcl_fl0 lcl_fl (by omega) (by omega) (no 9 (by omega) (by omega)) (fun f => by omega), c4.fr g lcl_fl0 lcl_fl (by omega) (by omega) (no 10 (by omega) (by omega)) (fun f => by omega)⟩, c5.fr g lcl_T lcl_set (by omega) (by omega) (no 11 (by omega) (by omega)) (fun f => by omega), c6.fr g lcl_T lcl_unf (by omega) (by omega) (no 12 (by omega) (by omega)) (fun f => by omega)⟩
/-- the model's text changes -/
theorem mI.txt {A : Nat → Prop} {F : Nat → Nat → Prop} {len' : Nat} (h : mI m P T tk pt fi V tx len) (t : mTo A F m m') (hA : ∀ k, A k → k = 64 * 2 + 1 ∨ k = 64 * 2 + 7 ∨ k = 64 * 2 + 8 ∨ k = 64 * 2 + 9) (hF : ∀ k f, F k f → k = 2 ∧ (f = 0 ∨ f = 2 ∨ f = 3 ∨ f = 4 ∨ f = 5 ∨ f = 13 ∨ f = 14)) (hx : mTxt m' 2 tx' len') : mI m' P T tk pt fi V tx' len' := by
  obtain ⟨a1, a2, a3, a4, a5, a6⟩ := h
  have nA : ∀ i, (2 ≤ i ∧ i ≤ 6) ∨ 10 ≤ i → ¬ A (64 * 2 + i) := fun i hi z => by have := hA _ z; omega
  have nF : ∀ f, f = 6 ∨ f = 7 ∨ 15 ≤ f → ¬ F 2 f := fun f hf z => by have := (hF _ _ z).2; omega
  refine ⟨a1.to t (fun i h1 h2 => nA i (by omega)) (nA 10 (by omega)) (nF 6 (by omega)) (nF 7 (by omega)) (nF 18 (by omega)) (nF 20 (by omega)), hx, ?_, ?_, a5.to a1.2.2.1 t (nA 21 (by omega)) (nA 22 (by omega)) (nA 23 (by omega)), ?_⟩
  · exact a3.imp (fun h => by rw [t.nf (nF _ (by omega))]; exact h) (fun h => h.to t (fun i h1 h2 => nA i (by omega)) (nF _ (by omega)))
  · exact a4.imp (fun h => by rw [t.nf (nF _ (by omega))]; exact h) (fun h => h.to t (fun i h1 h2 => nA i (by omega)) (nF _ (by omega)))
  · exact a6.imp (fun h => by rw [t.nf (nF _ (by omega))]; exact h) (fun h => h.to t (fun i h1 h2 => nA i (by omega)) (nF _ (by omega)) (nF _ (by omega)) (nF _ (by omega)))
theorem s_0 (hc : lwC 1000 Lw) (hn : L ≤ 2048) (hq : 4 * q + 3 < L) (H : gI L xs q m) (ih : ∀ m2 x5 x6, gI L xs (q + 1) m2 → Lw (23, Lf (4 * q + 4) x5 x6, [], m2)) : Lw (172, Lf (4 * q) x5 x6, [], m) := by
  obtain ⟨n, n2, P, T, tk, pt, fi, V, tx, len, nv, mv, h, hm, e1, e2, e3, e4⟩ := H
  obtain ⟨hT, hl, hc1, hs1, hB, hK⟩ := id h
  obtain ⟨a0, a1, a2, a3, a4, a5, a6, a7⟩ := id hB
  refine lc_0 hc hl.1 hn hq hl.2.1 a1.1.1 ?_
  obtain ⟨k, hk, ek⟩ := wb_of32 (xs (4 * q + 1))
  rw [ek]
  refine ev_signC (s := 65) (by omega) hT a1.1 a2 a3 hk (fun h4 m1 t1 x1 => ?_) (fun h4 => ?_)
  · have h1 := h.txt t1 (fun k z => z) (fun k f z => z.1) x1
    have b1 := hm.lc (ag_sc t1 (fun k z => by omega) (fun k f z => z.1))
    refine ⟨_, rfl, h1.2.1.1, h1.2.1.2.1, b1.1.1.1, ?_⟩
    refine ev_signM (by omega) h1.1 b1.2.1 hk (fun _ m2 t2 _ x2 => ?_) (fun h5 => absurd h4 h5)
    exact ⟨rfl, ih m2 _ _ ((h1.md t2 (fun k z => by omega) (fun k f z => z.1)).up.fin (b1.txt t2 (fun k z => by omega) (fun k f z => ⟨z.1, by omega⟩) x2) e1 e2 e3 e4)⟩
  · refine ⟨_, rfl, hl.1, hl.2.1, hm.1.1.1, ?_⟩
    exact ev_signM (by omega) hT hm.2.1 hk (fun h5 => absurd h5 h4) (fun _ => ⟨rfl, ih _ _ _ ((h.th hm).up.fin hm.th e1 e2 e3 e4)⟩)
theorem s_1 (hc : lwC 1000 Lw) (hn : L ≤ 2048) (hq : 4 * q + 3 < L) (H : gI L xs q m) (ih : ∀ m2 x5 x6, gI L xs (q + 1) m2 → Lw (23, Lf (4 * q + 4) x5 x6, [], m2)) : Lw (197, Lf (4 * q) x5 x6, [], m) := by
  obtain ⟨n, n2, P, T, tk, pt, fi, V, tx, len, nv, mv, h, hm, e1, e2, e3, e4⟩ := H
  obtain ⟨hT, hl, hc1, hs1, hB, hK⟩ := id h
  obtain ⟨a0, a1, a2, a3, a4, a5, a6, a7⟩ := id hB
  refine lc_1 hc hl.1 hn hq hl.2.1 a1.1.1 ?_
  obtain ⟨x1, x2, x3, x4, x5'⟩ := id a3
  obtain ⟨y1, y2, y3, y4, y5⟩ := id hm.2.1
  refine ev_endC (s := 65) (by omega) hT a1.1 a2 a3 (fun j hj ej => ?_) (fun hj => ?_)
  · have t1 : mTo (fun _ => False) (fun k f => k = 65 ∧ f = 0) m (mSetF m 65 0 (.int (nI j))) := (mTo.rf hT).sF x1 ⟨rfl, rfl⟩ (by decide)
    have h1 := h.txt t1 (fun k z => z.elim) (fun k f z => z.1) (tx' := tx) (len' := j) ⟨x1, iF_s, fun i hi => x3 i (by omega), by omega, x5'⟩
    have b1 := hm.lc (ag_sc t1 (fun k z => z.elim) (fun k f z => z.1))
    refine ⟨_, rfl, h1.2.1.1, h1.2.1.2.1, b1.1.1.1, ?_⟩
    refine ev_endM (by omega) h1.1 b1.2.1 (fun j2 hj2 ej2 => ?_) (fun hj2 => absurd ⟨j, hj, ej⟩ hj2)
    have ejj : j = j2 := (nIeq (by omega) (by omega)).mp (ej.symm.trans ej2)
    subst ejj
    have t2 : mTo (fun _ => False) (fun k f => k = 2 ∧ (f = 0 ∨ f = 2)) (mSetF m 65 0 (.int (nI j))) (mSetF (mSetF (mSetF m 65 0 (.int (nI j))) 2 0 (.int 0)) 2 2 (.int (nI j))) := ((mTo.rf h1.1).sF y1 ⟨rfl, Or.inl rfl⟩ (by decide)).sF y1 ⟨rfl, Or.inr rfl⟩ (by decide)
    exact ⟨rfl, ih _ _ _ ((h1.md t2 (fun k z => z.elim) (fun k f z => z.1)).up.fin (b1.txt t2 (fun k z => z.elim) (fun k f z => ⟨z.1, by omega⟩) ⟨y1, iF_s, fun i hi => y3 i (by omega), by omega, y5⟩) e1 e2 e3 e4)⟩
  · refine ⟨_, rfl, hl.1, hl.2.1, hm.1.1.1, ?_⟩
    exact ev_endM (by omega) hT hm.2.1 (fun j2 hj2 ej2 => absurd ⟨j2, hj2, ej2⟩ hj) (fun _ => ⟨rfl, ih _ _ _ ((h.th hm).up.fin hm.th e1 e2 e3 e4)⟩)
/-- net() is refused: the class -/
theorem gC.nx {A : Nat → Prop} {F : Nat → Nat → Prop} (h : gC L xs c m n n2 P T tk pt fi V tx len nv mv) (t : mTo A F m m') (hA : ∀ k, A k → 64 * n2 + 1 ≤ k ∧ k ≤ 64 * n2 + 3) (hF : ∀ k f, F k f → k = 65 ∨ k = n2) (hx : cTxt m' 65 tx 0) : gC L xs c m' n n2 P T tk pt fi V tx 0 nv mv := by
  obtain ⟨a1, a2, a3, a4, ⟨b0, b1, b2, b3, b4, b5, b6, b7⟩, ⟨c1, c2, ⟨c3, c4⟩, c5, c6⟩⟩ := h
  have g : gFr (fun k f => k = 65 ∨ k = n2) (fun a => 64 * n2 + 1 ≤ a ∧ a ≤ 64 * n2 + 3) 0 0 m m' := t.fr (fun k h => hA k h) (fun k f h => Or.inl (hF k f h))
  have g1 := g.2.2.2.2.2.1
  have g2 := g.2.2.2.2.2.2
  have no : ∀ s, 7 ≤ s → s ≤ 12 → ∀ a, gwN (64 * 1 + s) a → ¬ (64 * n2 + 1 ≤ a ∧ a ≤ 64 * n2 + 3) := fun k h1 h2 a h3 => by unfold gwN at h3; omega
  refine ⟨t.wt, a2.fr g (by omega) (by omega), by omega, by omega, ⟨b0, b1.fr g (fun a ha => by unfold gwN at ha; omega) (fun f => by omega) (fun a ha => by omega) (fun f _ => by omega), by rw [g.fl (by omega) (by omega)]; exact b2, hx, by rw [g.fl (by omega) (by omega)]; exact b4, by rw [t.ty]; exact b5, by rw [g.nf (by omega) (by omega)]; exact b6, by rw [g.nf (by omega) (by omega)]; exact b7⟩, ?_⟩
  exact ⟨c1.fr g lcl_T lcl_cov (by omega) (by omega) (no 7 (by omega) (by omega)) (fun f => by omega), c2.fr g lcl_T lcl_rch (by omega) (by omega) (no 8 (by omega) (by omega)) (fun f => by omega), ⟨c3.fr g lcl_fl0 lcl_fl (by omega) (by omega) (no 9 (by omega) (by omega)) (fun f => by omega), c4.fr g lcl_fl0 lcl_fl (by omega) (by omega) (no 10 (by omega) (by omega)) (fun f => by omega)⟩, c5.fr g lcl_T lcl_set (by omega) (by omega) (no 11 (by omega) (by omega)) (fun f => by omega), c6.fr g lcl_T lcl_unf (by omega) (by omega) (no 12 (by omega) (by omega)) (fun f => by omega)⟩
abbrev stV (st : pS) : aV := (st.2.2.2.2, fun _ => 0, fun _ _ => 0, 0)
/-- net() is taken: the class -/
theorem gC.nt {st : pS} (h : gC L xs c m n n2 P T tk pt fi V tx len nv mv) (ho : okS st) (t : mTo (cnA 1 n2) (cnF 1 65 n2) m m') (r1 : m'.2.1 1 1 = .ref n2) (r2 : m'.2.1 1 2 = .ref n) (r3 : iF m' 65 0 = 0) (r4 : pN m' n2 st) (r5 : ∀ p, p < 10 → m'.2.2.1 (64 * 1 + 4) p = nI (st.2.2.2.2 p)) (r6 : ∀ p, p < 10 → m'.2.2.1 (64 * 1 + 5) p = 0) (r7 : iF m' 1 6 = 0) (r8 : iF m' 1 7 = iF m 1 7 + 1) (r9 : iF m' 1 8 = iF m 1 8 + 1) : gC L xs c m' n2 n st.1 st.2.1 (tkOf st) (ptOf st) st.2.2.2.2 (stV st) tx 0 (nv + 1) (mv + 1) := by
  obtain ⟨a1, a2, a3, a4, ⟨b0, b1, b2, b3, b4, b5, b6, b7⟩, ⟨c1, c2, ⟨c3, c4⟩, c5, c6⟩⟩ := h
  have g : gFr (fun k f => k = 65 ∨ k = n2 ∨ (k = 1 ∧ (f = 1 ∨ f = 2 ∨ f = 6 ∨ f = 7 ∨ f = 8))) (fun a => (64 * n2 + 1 ≤ a ∧ a ≤ 64 * n2 + 3) ∨ a = 68 ∨ a = 69) 0 0 m m' := t.fr (fun k h => by unfold cnA pA at h; omega) (fun k f h => Or.inl (by unfold cnF cnF0 pF at h; omega))
  have g1 := g.2.2.2.2.2.1
  have g2 := g.2.2.2.2.2.2
  have no : ∀ s, 7 ≤ s → s ≤ 12 → ∀ a, gwN (64 * 1 + s) a → ¬ ((64 * n2 + 1 ≤ a ∧ a ≤ 64 * n2 + 3) ∨ a = 68 ∨ a = 69) := fun k h1 h2 a h3 => by unfold gwN at h3; omega
  have hk := okNet_of ho
  have f99 := ho.2.2.2.2.1
  obtain ⟨p1, p2, p3, p4, p5⟩ := r4
  refine ⟨t.wt, a2.fr g (by omega) (by omega), by omega, by omega, ⟨by omega, ?_, ?_, ?_, r2, ?_, by rw [r8, b6, nIinc], by rw [r9, b7, nIinc]⟩, ?_⟩
  · refine ⟨t.ob b1.1, r1, ⟨⟨by rw [t.ty]; exact b5, by omega⟩, p1, p2, fun u hu p hp => ?_, fun u hu p hp => ?_, p5⟩, hk, r5, fun p => f99 p, r6, fun p => Nat.zero_le _, r7, Nat.zero_le _, fun a ha => absurd ha (Nat.not_lt_zero _), fun _ _ => Nat.zero_le _⟩
    · rw [p3 _ (by omega)]
      unfold tkOf
      rw [if_pos ⟨hu, hp⟩]
    · rw [p4 _ (by omega)]
      unfold ptOf
      rw [if_pos ⟨hu, hp⟩]
  · rw [g.fl (by omega) (by omega)]; exact b2
  · exact ⟨t.ob b3.1, r3, fun i hi => absurd hi (Nat.not_lt_zero _), Nat.zero_le _, b3.2.2.2.2⟩
  · rw [t.ty]; exact b1.2.2.1.1.1
  · exact ⟨(c1.fr g lcl_T lcl_cov (by omega) (by omega) (no 7 (by omega) (by omega)) (fun f => by omega)).up (by omega), (c2.fr g lcl_T lcl_rch (by omega) (by omega) (no 8 (by omega) (by omega)) (fun f => by omega)).up (by omega), ⟨(c3.fr g lcl_fl0 lcl_fl (by omega) (by omega) (no 9 (by omega) (by omega)) (fun f => by omega)).up (by omega), (c4.fr g lcl_fl0 lcl_fl (by omega) (by omega) (no 10 (by omega) (by omega)) (fun f => by omega)).up (by omega)⟩, (c5.fr g lcl_T lcl_set (by omega) (by omega) (no 11 (by omega) (by omega)) (fun f => by omega)).up (by omega), (c6.fr g lcl_T lcl_unf (by omega) (by omega) (no 12 (by omega) (by omega)) (fun f => by omega)).up (by omega)⟩
theorem mI.nt {st : pS} {A : Nat → Prop} {F : Nat → Nat → Prop} (h : mI m P T tk pt fi V tx len) (ho : okS st) (hp : 0 < st.1) (t : mTo A F m m') (r2 : iF m' 2 2 = 0) (b : mBec m' 2 st) : mI m' st.1 st.2.1 (tkOf st) (ptOf st) st.2.2.2.2 (stV st) tx 0 := by
  obtain ⟨a1, a2, a3, a4, a5, a6⟩ := h
  obtain ⟨b1, b2, b3, b4, b5, b6, b7, b8, b9, b10, b11⟩ := b
  refine ⟨⟨t.ob a1.1, b2, okNet_of ho, by rw [b1, bz_t hp], b3, fun p => ho.2.2.2.2.1 p, b4, b5, fun p => Nat.zero_le _, b6, Nat.zero_le _, fun a ha => absurd ha (Nat.not_lt_zero _), fun _ _ => Nat.zero_le _⟩, ⟨t.ob a1.1, r2, fun i hi => absurd hi (Nat.not_lt_zero _), Nat.zero_le _, a2.2.2.2.2⟩, Or.inl b9, Or.inl b10, fun x hx => Or.inl ?_, Or.inl b11⟩
  rcases (show x = 0 ∨ x = 1 by omega) with e | e
  · rw [e]; exact b7
  · rw [e]; exact b8
theorem s_2 (hc : lwC 1000 Lw) (hn : L ≤ 2048) (hq : 4 * q + 3 < L) (H : gI L xs q m) (ih : ∀ m2 x5 x6, gI L xs (q + 1) m2 → Lw (23, Lf (4 * q + 4) x5 x6, [], m2)) : Lw (222, Lf (4 * q) x5 x6, [], m) := by
  obtain ⟨n, n2, P, T, tk, pt, fi, V, tx, len, nv, mv, h, hm, e1, e2, e3, e4⟩ := H
  obtain ⟨hT, hl, hc1, hs1, hB, hK⟩ := id h
  obtain ⟨a0, a1, a2, a3, a4, a5, a6, a7⟩ := id hB
  refine lc_2 hc hl.1 hn hq hl.2.1 a1.1.1 ?_
  refine ev_netC (s := 65) (n := n) (n2 := n2) (by omega) hT a1.1 a2 a3 a1.2.1 a4 a1.2.2.1.1 ⟨a5, by omega⟩ (fun i hi => by omega) (fun m1 f er t1 z1 => ?_) (fun m1 st er ho hp t1 w1 w2 w3 w4 w5 w6 w7 w8 w9 => ?_)
  · have h1 := h.nx t1 (fun k z => by unfold pA at z; omega) (fun k f z => by unfold cnF0 pF at z; omega) ⟨t1.ob a3.1, z1, fun i hi => absurd hi (Nat.not_lt_zero _), Nat.zero_le _, a3.2.2.2.2⟩
    have b1 := hm.lc ((t1.fr (F := cnF0 65 n2) (N := pA n2) (fun _ z => z) (fun _ _ z => Or.inl z)).ag (fun a ha z => by unfold gwN at ha; unfold pA at z; omega) (fun f _ z => by unfold cnF0 pF at z; omega))
    refine ⟨_, rfl, h1.2.1.1, h1.2.1.2.1, b1.1.1.1, ?_⟩
    refine ev_mNet (by omega) h1.1 b1.2.1 (fun m2 f2 er2 t2 _ z2 => ?_) (fun m2 st er2 => ?_)
    · rw [er] at er2
      cases er2
      exact ⟨rfl, ih m2 _ _ ((h1.md t2 (fun k z => by unfold mpA at z; omega) (fun k f z => z.1)).up.fin (b1.txt t2 (fun k z => by unfold mpA at z; omega) (fun k f z => z) ⟨t2.ob b1.1.1, z2, fun i hi => absurd hi (Nat.not_lt_zero _), Nat.zero_le _, b1.2.1.2.2.2.2⟩) e1 e2 e3 e4)⟩
    · rw [er] at er2
      cases er2
  · have h1 := h.nt ho t1 w1 w2 w3 w4 w5 w6 w7 w8 w9
    have b1 := hm.lc ((t1.fr (F := cnF 1 65 n2) (N := cnA 1 n2) (fun _ z => z) (fun _ _ z => Or.inl z)).ag (fun a ha z => by unfold gwN at ha; unfold cnA pA at z; omega) (fun f _ z => by unfold cnF cnF0 pF at z; omega))
    refine ⟨_, rfl, h1.2.1.1, h1.2.1.2.1, b1.1.1.1, ?_⟩
    refine ev_mNet (by omega) h1.1 b1.2.1 (fun m2 f2 er2 => ?_) (fun m2 st2 er2 ho2 t2 _ z2 mb => ?_)
    · rw [er] at er2
      cases er2
    · rw [er] at er2
      cases er2
      exact ⟨rfl, ih m2 _ _ ⟨_, _, _, _, _, _, _, _, _, _, _, _, (h1.md t2 (fun k z => by unfold mpA mbA at z; omega) (fun k f z => by unfold mnF mbF at z; omega)).up, b1.nt ho hp t2 z2 mb, by omega, by omega, fun _ => ⟨by omega, by omega⟩, fun _ => hp⟩⟩
end FT
