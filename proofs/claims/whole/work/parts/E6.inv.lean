/-! What holds between the law's calls: the class, the model, the law's own cells. -/
section LCLM
variable {P T : Nat} {tk pt : Nat → Nat → Nat} {fi mk : Nat → Nat} {V : aV} {tx : Nat → Nat} {len : Nat}
theorem lcl_mS : lcl (fun m o => mS m o P T tk pt fi V) := by
  intro c m m' g h
  simp only [mS, mNet] at h ⊢
  simp only [g.o, g.nf (f := 6) (by decide), g.nf (f := 7) (by decide), g.nf (f := 18) (by decide), g.nf (f := 20) (by decide), g.i (j := 2) (by decide), g.i (j := 3) (by decide), g.i (j := 4) (by decide), g.i (j := 5) (by decide), g.i (j := 6) (by decide), g.i (j := 10) (by decide)]
  exact h
theorem lcl_mTxt : lcl (fun m o => mTxt m o tx len) := by
  intro c m m' g h
  simp only [mTxt] at h ⊢
  simp only [g.o, g.nf (f := 2) (by decide), g.i (j := 1) (by decide)]
  exact h
theorem lcl_mCov {S : cvS} : lcl (fun m o => mCov m o P T tk S) := by
  intro c m m' g h
  simp only [mCov, mvR] at h ⊢
  simp only [g.nf (f := 26) (by decide), g.i (j := 11) (by decide), g.i (j := 12) (by decide), g.i (j := 13) (by decide), g.i (j := 14) (by decide)]
  exact h
theorem lcl_mRch {S : rcS} : lcl (fun m o => mRch m o P T tk pt S) := by
  intro c m m' g h
  simp only [mRch, mrR, mnR] at h ⊢
  simp only [g.nf (f := 33) (by decide), g.i (j := 15) (by decide), g.i (j := 16) (by decide), g.i (j := 17) (by decide), g.i (j := 18) (by decide), g.i (j := 19) (by decide)]
  exact h
theorem lcl_mFk : lcl (fun m o => mFk m o P T tk pt) := by
  intro c m m' g h
  have e1 : m'.2.2.1 (64 * c + 21) = m.2.2.1 (64 * c + 21) := g.i (j := 21) (by decide)
  have e2 : m'.2.2.1 (64 * c + 22) = m.2.2.1 (64 * c + 22) := g.i (j := 22) (by decide)
  have e3 : m'.2.2.1 (64 * c + 23) = m.2.2.1 (64 * c + 23) := g.i (j := 23) (by decide)
  intro x hx
  rcases h x hx with h | h
  · exact Or.inl (by rw [e1]; exact h)
  · refine Or.inr ?_
    unfold mFl at h ⊢
    rw [e2, e3]
    exact h
theorem lcl_mUnf : lcl (fun m o => mUnf m o P T tk pt mk) := by
  intro c m m' g h
  simp only [mUnf, meR, mcR] at h ⊢
  simp only [g.nf (f := 46) (by decide), g.nf (f := 47) (by decide), g.nf (f := 55) (by decide), g.i (j := 28) (by decide), g.i (j := 29) (by decide), g.i (j := 30) (by decide), g.i (j := 31) (by decide), g.i (j := 32) (by decide), g.i (j := 33) (by decide), g.i (j := 34) (by decide), g.i (j := 35) (by decide), g.i (j := 36) (by decide), g.i (j := 37) (by decide)]
  exact h
end LCLM
/-- the law's own cells: the script, the array for an answer -/
def lI (m : mMem) (L : Nat) (xs : Nat → Int32) : Prop := m.1 0 = some (.inl (.int, L)) ∧ m.2.2.1 0 = xs ∧ m.1 3 = some (.inl (.long, 1))
/-- the class, but for its caches -/
def cB (m : mMem) (n n2 P T : Nat) (tk pt : Nat → Nat → Nat) (fi : Nat → Nat) (V : aV) (tx : Nat → Nat) (len nv mv : Nat) : Prop :=
  ((n = 66 ∧ n2 = 67) ∨ (n = 67 ∧ n2 = 66)) ∧ cS m 1 n P T tk pt fi V ∧ m.2.1 1 0 = .ref 65 ∧ cTxt m 65 tx len ∧ m.2.1 1 2 = .ref n2 ∧ m.1 n2 = some (.inr 2) ∧ iF m 1 7 = nI nv ∧ iF m 1 8 = nI mv
def cK (m : mMem) (P T : Nat) (tk pt : Nat → Nat → Nat) (V : aV) (nv mv : Nat) : Prop := coK m 1 mv P T tk pt V ∧ reK m 1 mv P T tk pt V ∧ fK2 m 1 nv P T tk pt ∧ seK m 1 nv P T tk pt ∧ unK m 1 mv P T tk pt V
def mI (m : mMem) (P T : Nat) (tk pt : Nat → Nat → Nat) (fi : Nat → Nat) (V : aV) (tx : Nat → Nat) (len : Nat) : Prop :=
  mS m 2 P T tk pt fi V ∧ mTxt m 2 tx len ∧ (iF m 2 21 = 0 ∨ mCov m 2 P T tk (cvZ P T tk pt V.1)) ∧ (iF m 2 27 = 0 ∨ mRch m 2 P T tk pt (rcZ P T tk pt V.1)) ∧ mFk m 2 P T tk pt ∧ (iF m 2 45 = 0 ∨ mUnf m 2 P T tk pt V.1)
def nM (a : Nat) : Prop := a = 2 ∨ (129 ≤ a ∧ a ≤ 191)
section INV
variable {n n2 P T nv mv len L u w : Nat} {tk pt : Nat → Nat → Nat} {fi : Nat → Nat} {V : aV} {tx : Nat → Nat} {xs : Nat → Int32} {m m' : mMem} {F : Nat → Nat → Prop} {N A : Nat → Prop} {G : Nat → Nat → Prop}
theorem mI.lc (h : mI m P T tk pt fi V tx len) (g : agN 2 m m') : mI m' P T tk pt fi V tx len := by
  obtain ⟨a1, a2, a3, a4, a5, a6⟩ := h
  refine ⟨lcl_mS 2 m m' g a1, lcl_mTxt 2 m m' g a2, ?_, ?_, lcl_mFk 2 m m' g a5, ?_⟩
  · exact a3.imp (fun h => by rw [g.nf (by decide)]; exact h) (fun h => lcl_mCov 2 m m' g h)
  · exact a4.imp (fun h => by rw [g.nf (by decide)]; exact h) (fun h => lcl_mRch 2 m m' g h)
  · exact a6.imp (fun h => by rw [g.nf (by decide)]; exact h) (fun h => lcl_mUnf 2 m m' g h)
theorem lI.fr (h : lI m L xs) (g : gFr F N u w m m') (h0 : ¬ N 0) (h3 : ¬ N 3) : lI m' L xs := ⟨by rw [g.ty h0]; exact h.1, by rw [g.i h0]; exact h.2.1, by rw [g.ty h3]; exact h.2.2⟩
/-- a call of the model as a frame -/
theorem mTo.md (t : mTo A G m m') (hA : ∀ k, A k → 129 ≤ k ∧ k ≤ 191) (hG : ∀ k f, G k f → k = 2) : gFr (fun _ _ => False) nM 0 0 m m' := t.fr (fun k h => Or.inr (hA k h)) (fun k f h => Or.inr (Or.inl (hG k f h)))
theorem lI.md (h : lI m L xs) (g : gFr F nM u w m m') : lI m' L xs := h.fr g (by unfold nM; omega) (by unfold nM; omega)
theorem cB.md (h : cB m n n2 P T tk pt fi V tx len nv mv) (g : gFr (fun _ _ => False) nM u w m m') : cB m' n n2 P T tk pt fi V tx len nv mv := by
  obtain ⟨a0, a1, a2, a3, a4, a5, a6, a7⟩ := h
  have n1 : ¬ nM 1 := by unfold nM; omega
  have no : ∀ k, 65 ≤ k → k ≤ 76 → ∀ a, gwN k a → ¬ nM a := fun k h1 h2 a h3 => by unfold gwN at h3; unfold nM; omega
  refine ⟨a0, a1.fr g (no n (by omega) (by omega)) (fun _ => id) (fun a h => by unfold nM; omega) (fun _ _ => id), by rw [g.fl n1 id]; exact a2, a3.fr g (no 65 (by omega) (by omega)) id, by rw [g.fl n1 id]; exact a4, by rw [g.ty (by unfold nM; omega)]; exact a5, by rw [g.nf n1 id]; exact a6, by rw [g.nf n1 id]; exact a7⟩
theorem cK.md (h : cK m P T tk pt V nv mv) (g : gFr (fun _ _ => False) nM u w m m') : cK m' P T tk pt V nv mv := by
  obtain ⟨b1, b2, ⟨b3, b4⟩, b5, b6⟩ := h
  have n1 : ¬ nM 1 := by unfold nM; omega
  have no : ∀ s, 7 ≤ s → s ≤ 12 → ∀ a, gwN (64 * 1 + s) a → ¬ nM a := fun k h1 h2 a h3 => by unfold gwN at h3; unfold nM; omega
  exact ⟨b1.fr g lcl_T lcl_cov n1 id (no 7 (by omega) (by omega)) (fun _ => id), b2.fr g lcl_T lcl_rch n1 id (no 8 (by omega) (by omega)) (fun _ => id), ⟨b3.fr g lcl_fl0 lcl_fl n1 id (no 9 (by omega) (by omega)) (fun _ => id), b4.fr g lcl_fl0 lcl_fl n1 id (no 10 (by omega) (by omega)) (fun _ => id)⟩, b5.fr g lcl_T lcl_set n1 id (no 11 (by omega) (by omega)) (fun _ => id), b6.fr g lcl_T lcl_unf n1 id (no 12 (by omega) (by omega)) (fun _ => id)⟩
/-- a call of the class that asks its caches: K are those that may change -/
def ckF (K : Nat → Prop) (F : Nat → Nat → Prop) (N : Nat → Prop) : Prop := (∀ k f, F k f → k = 1 ∧ ∃ s, K s ∧ f = s + 2) ∧ (∀ a, N a → ∃ s, K s ∧ gwN (64 * 1 + s) a) ∧ ∀ s, K s → 7 ≤ s ∧ s ≤ 12
theorem cB.ck {K : Nat → Prop} (h : cB m n n2 P T tk pt fi V tx len nv mv) (g : gFr F N u w m m') (k : ckF K F N) : cB m' n n2 P T tk pt fi V tx len nv mv := by
  obtain ⟨a0, a1, a2, a3, a4, a5, a6, a7⟩ := h
  obtain ⟨k1, k2, k3⟩ := k
  have nN : ∀ a, a < 71 ∨ (77 ≤ a ∧ a ≤ 4400) → ¬ N a := fun a ha hN => by
    obtain ⟨s, h1, h2⟩ := k2 a hN
    have := k3 s h1
    unfold gwN at h2
    omega
  have nF : ∀ k f, k ≠ 1 ∨ f < 9 → ¬ F k f := fun k f h hF => by
    obtain ⟨h1, s, h2, h3⟩ := k1 k f hF
    have := k3 s h2
    omega
  refine ⟨a0, a1.fr g (fun a ha => nN a (by unfold gwN at ha; omega)) (fun f => nF _ f (by omega)) (fun a h => nN a (by omega)) (fun f hf => nF _ f (by omega)), by rw [g.fl (nN 1 (by omega)) (nF _ _ (by omega))]; exact a2, a3.fr g (fun a ha => nN a (by unfold gwN at ha; omega)) (nF _ _ (by omega)), by rw [g.fl (nN 1 (by omega)) (nF _ _ (by omega))]; exact a4, by rw [g.ty (nN _ (by omega))]; exact a5, by rw [g.nf (nN 1 (by omega)) (nF _ _ (by omega))]; exact a6, by rw [g.nf (nN 1 (by omega)) (nF _ _ (by omega))]; exact a7⟩
theorem caK.ck {K : Nat → Prop} {s ci v : Nat} {PM OK : mMem → Nat → Prop} (h : caK m 1 (s + 2) s ci v PM OK) (g : gFr F N u w m m') (k : ckF K F N) (l1 : lcl PM) (l2 : lcl OK) (hs : 7 ≤ s ∧ s ≤ 12) (hK : ¬ K s) : caK m' 1 (s + 2) s ci v PM OK := by
  obtain ⟨k1, k2, k3⟩ := k
  refine h.fr g l1 l2 (fun hN => ?_) (fun hF => ?_) (fun a ha hN => ?_) (fun f hF => ?_)
  · obtain ⟨s', h1, h2⟩ := k2 1 hN
    have := k3 s' h1
    unfold gwN at h2
    omega
  · obtain ⟨_, s', h2, h3⟩ := k1 _ _ hF
    exact hK (by rw [show s = s' by omega]; exact h2)
  · obtain ⟨s', h1, h2⟩ := k2 a hN
    have := k3 s' h1
    unfold gwN at ha h2
    exact hK (by rw [show s = s' by omega]; exact h1)
  · have := (k1 _ _ hF).1
    omega
theorem ck_ag {K : Nat → Prop} (g : gFr F N u w m m') (k : ckF K F N) : agN 2 m m' := by
  obtain ⟨k1, k2, k3⟩ := k
  refine g.ag (fun a ha hN => ?_) (fun f _ hF => ?_)
  · obtain ⟨s, h1, h2⟩ := k2 a hN
    have := k3 s h1
    unfold gwN at ha h2
    omega
  · have := (k1 _ _ hF).1
    omega
theorem ck_lI {K : Nat → Prop} (h : lI m L xs) (g : gFr F N u w m m') (k : ckF K F N) : lI m' L xs := by
  obtain ⟨k1, k2, k3⟩ := k
  refine h.fr g (fun hN => ?_) (fun hN => ?_)
  · obtain ⟨s, h1, h2⟩ := k2 0 hN
    have := k3 s h1
    unfold gwN at h2
    omega
  · obtain ⟨s, h1, h2⟩ := k2 3 hN
    have := k3 s h1
    unfold gwN at h2
    omega
theorem ck_co : ckF (fun s => s = 7) (fun k f => k = 1 ∧ f = 9) (gwN (64 * 1 + 7)) := ⟨fun k f h => ⟨h.1, 7, rfl, h.2⟩, fun a h => ⟨7, rfl, h⟩, fun s h => by omega⟩
theorem ck_re : ckF (fun s => s = 8) (fun k f => k = 1 ∧ f = 10) (gwN (64 * 1 + 8)) := ⟨fun k f h => ⟨h.1, 8, rfl, h.2⟩, fun a h => ⟨8, rfl, h⟩, fun s h => by omega⟩
theorem ck_fl : ckF (fun s => s = 9 ∨ s = 10) (fun k f => k = 1 ∧ (f = 11 ∨ f = 12)) (flNw 1) := ⟨fun k f h => ⟨h.1, h.2.elim (fun e => ⟨9, Or.inl rfl, e⟩) (fun e => ⟨10, Or.inr rfl, e⟩)⟩, fun a h => h.elim (fun h => ⟨9, Or.inl rfl, h⟩) (fun h => ⟨10, Or.inr rfl, h⟩), fun s h => by omega⟩
theorem ck_se : ckF (fun s => s = 11) (fun k f => k = 1 ∧ f = 13) (gwN (64 * 1 + 11)) := ⟨fun k f h => ⟨h.1, 11, rfl, h.2⟩, fun a h => ⟨11, rfl, h⟩, fun s h => by omega⟩
theorem ck_un : ckF (fun s => s = 12) (fun k f => k = 1 ∧ f = 14) (gwN (64 * 1 + 12)) := ⟨fun k f h => ⟨h.1, 12, rfl, h.2⟩, fun a h => ⟨12, rfl, h⟩, fun s h => by omega⟩
theorem cK.co (h : cK m P T tk pt V nv mv) (g : coG 1 m m') (k : coK m' 1 mv P T tk pt V) : cK m' P T tk pt V nv mv := by
  obtain ⟨b1, b2, ⟨b3, b4⟩, b5, b6⟩ := h
  exact ⟨k, b2.ck g ck_co lcl_T lcl_rch (by omega) (by omega), ⟨b3.ck g ck_co lcl_fl0 lcl_fl (by omega) (by omega), b4.ck g ck_co lcl_fl0 lcl_fl (by omega) (by omega)⟩, b5.ck g ck_co lcl_T lcl_set (by omega) (by omega), b6.ck g ck_co lcl_T lcl_unf (by omega) (by omega)⟩
theorem cK.re (h : cK m P T tk pt V nv mv) (g : reG 1 m m') (k : reK m' 1 mv P T tk pt V) : cK m' P T tk pt V nv mv := by
  obtain ⟨b1, b2, ⟨b3, b4⟩, b5, b6⟩ := h
  exact ⟨b1.ck g ck_re lcl_T lcl_cov (by omega) (by omega), k, ⟨b3.ck g ck_re lcl_fl0 lcl_fl (by omega) (by omega), b4.ck g ck_re lcl_fl0 lcl_fl (by omega) (by omega)⟩, b5.ck g ck_re lcl_T lcl_set (by omega) (by omega), b6.ck g ck_re lcl_T lcl_unf (by omega) (by omega)⟩
theorem cK.fl (h : cK m P T tk pt V nv mv) (g : flG 1 m m') (k : fK2 m' 1 nv P T tk pt) : cK m' P T tk pt V nv mv := by
  obtain ⟨b1, b2, ⟨b3, b4⟩, b5, b6⟩ := h
  exact ⟨b1.ck g ck_fl lcl_T lcl_cov (by omega) (by omega), b2.ck g ck_fl lcl_T lcl_rch (by omega) (by omega), k, b5.ck g ck_fl lcl_T lcl_set (by omega) (by omega), b6.ck g ck_fl lcl_T lcl_unf (by omega) (by omega)⟩
theorem cK.se (h : cK m P T tk pt V nv mv) (g : seG 1 m m') (k : seK m' 1 nv P T tk pt) : cK m' P T tk pt V nv mv := by
  obtain ⟨b1, b2, ⟨b3, b4⟩, b5, b6⟩ := h
  exact ⟨b1.ck g ck_se lcl_T lcl_cov (by omega) (by omega), b2.ck g ck_se lcl_T lcl_rch (by omega) (by omega), ⟨b3.ck g ck_se lcl_fl0 lcl_fl (by omega) (by omega), b4.ck g ck_se lcl_fl0 lcl_fl (by omega) (by omega)⟩, k, b6.ck g ck_se lcl_T lcl_unf (by omega) (by omega)⟩
theorem cK.un (h : cK m P T tk pt V nv mv) (g : unG 1 m m') (k : unK m' 1 mv P T tk pt V) : cK m' P T tk pt V nv mv := by
  obtain ⟨b1, b2, ⟨b3, b4⟩, b5, b6⟩ := h
  exact ⟨b1.ck g ck_un lcl_T lcl_cov (by omega) (by omega), b2.ck g ck_un lcl_T lcl_rch (by omega) (by omega), ⟨b3.ck g ck_un lcl_fl0 lcl_fl (by omega) (by omega), b4.ck g ck_un lcl_fl0 lcl_fl (by omega) (by omega)⟩, b5.ck g ck_un lcl_T lcl_set (by omega) (by omega), k⟩
/-- an act of the class -/
theorem cK.ac {V' : aV} {mv' : Nat} (h : cK m P T tk pt V nv mv) (t : mTo (cA 1) (cF 1) m m') (hv : (V'.1 = V.1 ∧ mv' = mv) ∨ mv < mv') : cK m' P T tk pt V' nv mv' := by
  obtain ⟨b1, b2, ⟨b3, b4⟩, b5, b6⟩ := h
  have g : gFr (fun k f => k = 1 ∧ (f = 6 ∨ f = 8)) (fun a => 68 ≤ a ∧ a ≤ 70) 0 0 m m' := t.fr (fun k h => by unfold cA at h; omega) (fun k f h => Or.inl h)
  have n1 : ¬ (68 ≤ 1 ∧ 1 ≤ 70) := by omega
  have no : ∀ s, 7 ≤ s → s ≤ 12 → ∀ a, gwN (64 * 1 + s) a → ¬ (68 ≤ a ∧ a ≤ 70) := fun k h1 h2 a h3 => by unfold gwN at h3; omega
  have c1 := b1.fr g lcl_T lcl_cov n1 (by omega) (no 7 (by omega) (by omega)) (fun f => by omega)
  have c2 := b2.fr g lcl_T lcl_rch n1 (by omega) (no 8 (by omega) (by omega)) (fun f => by omega)
  have c3 := b3.fr g lcl_fl0 lcl_fl n1 (by omega) (no 9 (by omega) (by omega)) (fun f => by omega)
  have c4 := b4.fr g lcl_fl0 lcl_fl n1 (by omega) (no 10 (by omega) (by omega)) (fun f => by omega)
  have c5 := b5.fr g lcl_T lcl_set n1 (by omega) (no 11 (by omega) (by omega)) (fun f => by omega)
  have c6 := b6.fr g lcl_T lcl_unf n1 (by omega) (no 12 (by omega) (by omega)) (fun f => by omega)
  rcases hv with ⟨e1, e2⟩ | hv
  · subst e2
    unfold cK coK reK unK
    rw [e1]
    exact ⟨c1, c2, ⟨c3, c4⟩, c5, c6⟩
  · exact ⟨c1.up hv, c2.up hv, ⟨c3, c4⟩, c5, c6.up hv⟩
end INV
