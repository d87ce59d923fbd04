/-! The law: what stays true from call to call. -/
def gC (L : Nat) (xs : Nat → Int32) (c : Nat) (m : mMem) (n n2 P T : Nat) (tk pt : Nat → Nat → Nat) (fi : Nat → Nat) (V : aV) (tx : Nat → Nat) (len nv mv : Nat) : Prop :=
  mWT m ∧ lI m L xs ∧ m.2.2.2.2.1 ≤ 200 + 14 * c ∧ m.2.2.2.2.2 ≤ 60000 + 8700 * c ∧ cB m n n2 P T tk pt fi V tx len nv mv ∧ cK m P T tk pt V nv mv
def gI (L : Nat) (xs : Nat → Int32) (q : Nat) (m : mMem) : Prop := ∃ n n2 P T tk pt fi V tx len nv mv, gC L xs q m n n2 P T tk pt fi V tx len nv mv ∧ mI m P T tk pt fi V tx len ∧ nv ≤ q ∧ mv ≤ q ∧ (0 < P → 0 < nv ∧ 0 < mv) ∧ (0 < T → 0 < P)
section GC
variable {L c n n2 P T len nv mv q u w : Nat} {xs : Nat → Int32} {tk pt : Nat → Nat → Nat} {fi : Nat → Nat} {V V' : aV} {tx : Nat → Nat} {m m' : mMem} {F G : Nat → Nat → Prop} {N A : Nat → Prop} {K : Nat → Prop}
theorem gC.ck (h : gC L xs c m n n2 P T tk pt fi V tx len nv mv) (g : gFr F N u w m m') (k : ckF K F N) (hu : u ≤ 14) (hw : w ≤ 8700) (hK : cK m' P T tk pt V nv mv) : gC L xs (c + 1) m' n n2 P T tk pt fi V tx len nv mv := by
  obtain ⟨a1, a2, a3, a4, a5, a6⟩ := h
  have g1 := g.2.2.2.2.2.1
  have g2 := g.2.2.2.2.2.2
  exact ⟨g.wt, ck_lI a2 g k, by omega, by omega, a5.ck g k, hK⟩
theorem gC.md (h : gC L xs c m n n2 P T tk pt fi V tx len nv mv) (t : mTo A G m m') (hA : ∀ k, A k → 129 ≤ k ∧ k ≤ 191) (hG : ∀ k f, G k f → k = 2) : gC L xs c m' n n2 P T tk pt fi V tx len nv mv := by
  obtain ⟨a1, a2, a3, a4, a5, a6⟩ := h
  have g := t.md hA hG
  have g1 := g.2.2.2.2.2.1
  have g2 := g.2.2.2.2.2.2
  exact ⟨g.wt, a2.md g, by omega, by omega, a5.md g, a6.md g⟩
theorem gC.up (h : gC L xs c m n n2 P T tk pt fi V tx len nv mv) : gC L xs (c + 1) m n n2 P T tk pt fi V tx len nv mv := ⟨h.1, h.2.1, by have := h.2.2.1; omega, by have := h.2.2.2.1; omega, h.2.2.2.2.1, h.2.2.2.2.2⟩
theorem far {n s : Nat} (hn : (n = 66 ∧ n2 = 67) ∨ (n = 67 ∧ n2 = 66)) (hs : 7 ≤ s ∧ s ≤ 12) : ∀ a, gwN n a → ¬ gwN (64 * 1 + s) a := fun a h1 h2 => by unfold gwN at h1 h2; omega
theorem gC.fin (h : gC L xs (q + 1) m n n2 P T tk pt fi V tx len nv mv) (hm : mI m P T tk pt fi V tx len) (e1 : nv ≤ q) (e2 : mv ≤ q) (e3 : 0 < P → 0 < nv ∧ 0 < mv) (e4 : 0 < T → 0 < P) : gI L xs (q + 1) m := ⟨n, n2, P, T, tk, pt, fi, V, tx, len, nv, mv, h, hm, by omega, by omega, e3, e4⟩
-- the model's steps
theorem mI.th (h : mI m P T tk pt fi V tx len) : mI (mSetF m 2 0 (.int 0)) P T tk pt fi V tx len := h.lc agN.s0
theorem gC.th (h : gC L xs c m n n2 P T tk pt fi V tx len nv mv) (hm : mI m P T tk pt fi V tx len) : gC L xs c (mSetF m 2 0 (.int 0)) n n2 P T tk pt fi V tx len nv mv :=
  h.md ((mTo.rf (A := fun _ => False) (F := fun k f => k = 2 ∧ f = 0) h.1).sF hm.1.1 ⟨rfl, rfl⟩ (by decide)) (fun _ z => z.elim) (fun k f z => z.1)
theorem mI.cov (h : mI m P T tk pt fi V tx len) (t : mTo (mcA 2) (mc0 2) m m') (y : iF m' 2 21 = 0 ∨ mCov m' 2 P T tk (cvZ P T tk pt V.1)) : mI m' P T tk pt fi V tx len := by
  obtain ⟨a1, a2, a3, a4, a5, a6⟩ := h
  refine ⟨a1.to t (fun i _ _ z => by unfold mcA at z; omega) (fun z => by unfold mcA at z; omega) (fun z => by unfold mc0 at z; omega) (fun z => by unfold mc0 at z; omega) (fun z => by unfold mc0 at z; omega) (fun z => by unfold mc0 at z; omega), a2.to t (fun z => by unfold mcA at z; omega) (fun z => by unfold mc0 at z; omega), y, ?_, a5.to a1.2.2.1 t (fun z => by unfold mcA at z; omega) (fun z => by unfold mcA at z; omega) (fun z => by unfold mcA at z; omega), ?_⟩
  · exact a4.imp (fun h => by rw [t.nf (fun z => by unfold mc0 at z; omega)]; exact h) (fun h => h.to t (fun i _ _ z => by unfold mcA at z; omega) (fun z => by unfold mc0 at z; omega))
  · exact a6.imp (fun h => by rw [t.nf (fun z => by unfold mc0 at z; omega)]; exact h) (fun h => h.to t (fun i _ _ z => by unfold mcA at z; omega) (fun z => by unfold mc0 at z; omega) (fun z => by unfold mc0 at z; omega) (fun z => by unfold mc0 at z; omega))
theorem mI.rch (h : mI m P T tk pt fi V tx len) (t : mTo (mgB 2) (mg0 2) m m') (y : iF m' 2 27 = 0 ∨ mRch m' 2 P T tk pt (rcZ P T tk pt V.1)) : mI m' P T tk pt fi V tx len := by
  obtain ⟨a1, a2, a3, a4, a5, a6⟩ := h
  refine ⟨a1.to t (fun i _ _ z => by unfold mgB at z; omega) (fun z => by unfold mgB at z; omega) (fun z => by unfold mg0 at z; omega) (fun z => by unfold mg0 at z; omega) (fun z => by unfold mg0 at z; omega) (fun z => by unfold mg0 at z; omega), a2.to t (fun z => by unfold mgB at z; omega) (fun z => by unfold mg0 at z; omega), ?_, y, a5.to a1.2.2.1 t (fun z => by unfold mgB at z; omega) (fun z => by unfold mgB at z; omega) (fun z => by unfold mgB at z; omega), ?_⟩
  · exact a3.imp (fun h => by rw [t.nf (fun z => by unfold mg0 at z; omega)]; exact h) (fun h => h.to t (fun i _ _ z => by unfold mgB at z; omega) (fun z => by unfold mg0 at z; omega))
  · exact a6.imp (fun h => by rw [t.nf (fun z => by unfold mg0 at z; omega)]; exact h) (fun h => h.to t (fun i _ _ z => by unfold mgB at z; omega) (fun z => by unfold mg0 at z; omega) (fun z => by unfold mg0 at z; omega) (fun z => by unfold mg0 at z; omega))
theorem mI.fk (h : mI m P T tk pt fi V tx len) (t : mTo (mlA 2) (moG 2) m m') (y : mFk m' 2 P T tk pt) : mI m' P T tk pt fi V tx len := by
  obtain ⟨a1, a2, a3, a4, a5, a6⟩ := h
  refine ⟨a1.to t (fun i _ _ z => by unfold mlA at z; omega) (fun z => by unfold mlA at z; omega) (fun z => by unfold moG at z; omega) (fun z => by unfold moG at z; omega) (fun z => by unfold moG at z; omega) (fun z => by unfold moG at z; omega), a2.to t (fun z => by unfold mlA at z; omega) (fun z => by unfold moG at z; omega), ?_, ?_, y, ?_⟩
  · exact a3.imp (fun h => by rw [t.nf (fun z => by unfold moG at z; omega)]; exact h) (fun h => h.to t (fun i _ _ z => by unfold mlA at z; omega) (fun z => by unfold moG at z; omega))
  · exact a4.imp (fun h => by rw [t.nf (fun z => by unfold moG at z; omega)]; exact h) (fun h => h.to t (fun i _ _ z => by unfold mlA at z; omega) (fun z => by unfold moG at z; omega))
  · exact a6.imp (fun h => by rw [t.nf (fun z => by unfold moG at z; omega)]; exact h) (fun h => h.to t (fun i _ _ z => by unfold mlA at z; omega) (fun z => by unfold moG at z; omega) (fun z => by unfold moG at z; omega) (fun z => by unfold moG at z; omega))
theorem mI.se (h : mI m P T tk pt fi V tx len) (t : mTo (m27 2) (mF0 2) m m') : mI m' P T tk pt fi V tx len := by
  obtain ⟨a1, a2, a3, a4, a5, a6⟩ := h
  refine ⟨a1.to t (fun i _ _ z => by unfold m27 at z; omega) (fun z => by unfold m27 at z; omega) (fun z => by unfold mF0 at z; omega) (fun z => by unfold mF0 at z; omega) (fun z => by unfold mF0 at z; omega) (fun z => by unfold mF0 at z; omega), a2.to t (fun z => by unfold m27 at z; omega) (fun z => by unfold mF0 at z; omega), ?_, ?_, a5.to a1.2.2.1 t (fun z => by unfold m27 at z; omega) (fun z => by unfold m27 at z; omega) (fun z => by unfold m27 at z; omega), ?_⟩
  · exact a3.imp (fun h => by rw [t.nf (fun z => by unfold mF0 at z; omega)]; exact h) (fun h => h.to t (fun i _ _ z => by unfold m27 at z; omega) (fun z => by unfold mF0 at z; omega))
  · exact a4.imp (fun h => by rw [t.nf (fun z => by unfold mF0 at z; omega)]; exact h) (fun h => h.to t (fun i _ _ z => by unfold m27 at z; omega) (fun z => by unfold mF0 at z; omega))
  · exact a6.imp (fun h => by rw [t.nf (fun z => by unfold mF0 at z; omega)]; exact h) (fun h => h.to t (fun i _ _ z => by unfold m27 at z; omega) (fun z => by unfold mF0 at z; omega) (fun z => by unfold mF0 at z; omega) (fun z => by unfold mF0 at z; omega))
theorem mI.un (h : mI m P T tk pt fi V tx len) (t : mTo (ufA 2) (uf0 2) m m') (y : iF m' 2 45 = 0 ∨ mUnf m' 2 P T tk pt V.1) : mI m' P T tk pt fi V tx len := by
  obtain ⟨a1, a2, a3, a4, a5, a6⟩ := h
  have no : ∀ f, f ≠ 0 → f ≠ 45 → f ≠ 46 → f ≠ 47 → f ≠ 55 → f ≠ 60 → f ≠ 63 → f ≠ 64 → ¬ uf0 2 2 f := fun f _ _ _ _ _ _ _ _ z => by unfold uf0 ufF at z; omega
  refine ⟨a1.to t (fun i _ _ z => by unfold ufA at z; omega) (fun z => by unfold ufA at z; omega) (no _ (by decide) (by decide) (by decide) (by decide) (by decide) (by decide) (by decide) (by decide)) (no _ (by decide) (by decide) (by decide) (by decide) (by decide) (by decide) (by decide) (by decide)) (no _ (by decide) (by decide) (by decide) (by decide) (by decide) (by decide) (by decide) (by decide)) (no _ (by decide) (by decide) (by decide) (by decide) (by decide) (by decide) (by decide) (by decide)), a2.to t (fun z => by unfold ufA at z; omega) (no _ (by decide) (by decide) (by decide) (by decide) (by decide) (by decide) (by decide) (by decide)), ?_, ?_, a5.to a1.2.2.1 t (fun z => by unfold ufA at z; omega) (fun z => by unfold ufA at z; omega) (fun z => by unfold ufA at z; omega), y⟩
  · exact a3.imp (fun h => by rw [t.nf (no _ (by decide) (by decide) (by decide) (by decide) (by decide) (by decide) (by decide) (by decide))]; exact h) (fun h => h.to t (fun i _ _ z => by unfold ufA at z; omega) (no _ (by decide) (by decide) (by decide) (by decide) (by decide) (by decide) (by decide) (by decide)))
  · exact a4.imp (fun h => by rw [t.nf (no _ (by decide) (by decide) (by decide) (by decide) (by decide) (by decide) (by decide) (by decide))]; exact h) (fun h => h.to t (fun i _ _ z => by unfold ufA at z; omega) (no _ (by decide) (by decide) (by decide) (by decide) (by decide) (by decide) (by decide) (by decide)))
theorem mI.ac (h : mI m P T tk pt fi V tx len) (k : mOkk 2 V V' m m') (hS : mS m' 2 P T tk pt fi V') : mI m' P T tk pt fi V' tx len := by
  obtain ⟨a1, a2, a3, a4, a5, a6⟩ := h
  obtain ⟨t, k0, k1⟩ := k
  have b2 : mTxt m' 2 tx len := a2.to t (fun z => by unfold maA at z; omega) (fun z => by unfold maF at z; omega)
  have b5 : mFk m' 2 P T tk pt := a5.to a1.2.2.1 t (fun z => by unfold maA at z; omega) (fun z => by unfold maA at z; omega) (fun z => by unfold maA at z; omega)
  rcases k1 with ⟨r1, r2, r3, r4⟩ | ⟨r1, r2, r3⟩
  · refine ⟨hS, b2, ?_, ?_, b5, ?_⟩
    · rw [r1, r4]; exact a3.imp id (fun h => h.to t (fun i _ _ z => by unfold maA at z; omega) (fun z => by unfold maF at z; omega))
    · rw [r2, r4]; exact a4.imp id (fun h => h.to t (fun i _ _ z => by unfold maA at z; omega) (fun z => by unfold maF at z; omega))
    · rw [r3, r4]; exact a6.imp id (fun h => h.to t (fun i _ _ z => by unfold maA at z; omega) (fun z => by unfold maF at z; omega) (fun z => by unfold maF at z; omega) (fun z => by unfold maF at z; omega))
  · exact ⟨hS, b2, Or.inl r1, Or.inl r2, b5, Or.inl r3⟩
/-- an act of the class -/
theorem gC.ac (h : gC L xs c m n n2 P T tk pt fi V tx len nv mv) (k : cOk 1 V V' m m') (hS : cS m' 1 n P T tk pt fi V') : ∃ mv', mv' ≤ mv + 1 ∧ mv ≤ mv' ∧ gC L xs c m' n n2 P T tk pt fi V' tx len nv mv' := by
  obtain ⟨a1, a2, a3, a4, ⟨b0, b1, b2, b3, b4, b5, b6, b7⟩, a6⟩ := h
  obtain ⟨t, k1⟩ := k
  have g : gFr (fun k f => k = 1 ∧ (f = 6 ∨ f = 8)) (fun a => 68 ≤ a ∧ a ≤ 70) 0 0 m m' := t.fr (fun k h => by unfold cA at h; omega) (fun k f h => Or.inl h)
  have g1 := g.2.2.2.2.2.1
  have g2 := g.2.2.2.2.2.2
  have hl := a2.fr g (by omega) (by omega)
  have base : ∀ mv', iF m' 1 8 = nI mv' → cB m' n n2 P T tk pt fi V' tx len nv mv' := fun mv' e => ⟨b0, hS, by rw [t.fl (fun z => by unfold cF at z; omega)]; exact b2, b3.to t (fun z => by unfold cA at z; omega) (fun z => by unfold cF at z; omega), by rw [t.fl (fun z => by unfold cF at z; omega)]; exact b4, by rw [t.ty]; exact b5, by rw [t.nf (fun z => by unfold cF at z; omega)]; exact b6, e⟩
  rcases k1 with ⟨r1, r2⟩ | r1
  · exact ⟨mv, by omega, by omega, t.wt, hl, by omega, by omega, base mv (r1.trans b7), a6.ac t (Or.inl ⟨r2, rfl⟩)⟩
  · exact ⟨mv + 1, by omega, by omega, t.wt, hl, by omega, by omega, base (mv + 1) (by rw [r1, b7, nIinc]), a6.ac t (Or.inr (by omega))⟩
theorem ac_ag (t : mTo (cA 1) (cF 1) m m') : agN 2 m m' := (t.fr (F := cF 1) (N := cA 1) (fun _ z => z) (fun _ _ z => Or.inl z)).ag (fun a ha z => by unfold gwN at ha; unfold cA at z; omega) (fun f _ z => by unfold cF at z; omega)
end GC
