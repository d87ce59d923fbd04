/-! Caches of the class: what they hold, and that it stays. -/
/-- an object and its arrays are as they were, but for the field 0 -/
def agN (c : Nat) (m m' : mMem) : Prop := (∀ a, gwN c a → m'.1 a = m.1 a) ∧ (∀ f, f ≠ 0 → m'.2.1 c f = m.2.1 c f) ∧ (∀ a, gwN c a → m'.2.2.1 a = m.2.2.1 a)
section AGN
variable {F : Nat → Nat → Prop} {N : Nat → Prop} {m m' : mMem} {c f j u w : Nat}
theorem gFr.ag (h : gFr F N u w m m') (q : ∀ a, gwN c a → ¬ N a) (q2 : ∀ f, f ≠ 0 → ¬ F c f) : agN c m m' :=
  ⟨fun a ha => h.2.1 a (q a ha), fun f hf => h.2.2.1 c f (q c (Or.inl rfl)) (q2 f hf), fun a ha => h.2.2.2.1 a (q a ha)⟩
theorem agN.o (h : agN c m m') : m'.1 c = m.1 c := h.1 c (Or.inl rfl)
theorem agN.nf (h : agN c m m') (q : f ≠ 0) : iF m' c f = iF m c f := by unfold iF; rw [h.2.1 f q]
theorem agN.i (h : agN c m m') (q : 1 ≤ j ∧ j ≤ 63) : m'.2.2.1 (64 * c + j) = m.2.2.1 (64 * c + j) := h.2.2 _ (Or.inr (by omega))
theorem agN.t (h : agN c m m') (q : 1 ≤ j ∧ j ≤ 63) : m'.1 (64 * c + j) = m.1 (64 * c + j) := h.1 _ (Or.inr (by omega))
theorem agN.s0 {v : Value} : agN c m (mSetF m c 0 v) := ⟨fun _ _ => rfl, fun f hf => rdF_ne hf, fun _ _ => rfl⟩
end AGN
/-- what speaks of an object and its arrays alone -/
def lcl (OK : mMem → Nat → Prop) : Prop := ∀ c m m', agN c m m' → OK m c → OK m' c
theorem lcl_T : lcl (fun _ _ => True) := fun _ _ _ _ _ => trivial
section LCL
variable {P T W E : Nat} {tk pt : Nat → Nat → Nat} {pl : Prop}
theorem lcl_cov {S : cvS} : lcl (fun m c => covC m c P T tk S) := by
  intro c m m' g h
  simp only [covC, cvR] at h ⊢
  simp only [g.o, g.nf (f := 7) (by decide), g.nf (f := 1) (by decide), g.nf (f := 2) (by decide), g.i (j := 1) (by decide), g.i (j := 2) (by decide), g.i (j := 3) (by decide), g.i (j := 4) (by decide)]
  exact h
theorem lcl_rch {S : rcS} : lcl (fun m c => rchC m c P T tk pt S) := by
  intro c m m' g h
  simp only [rchC, rcR] at h ⊢
  simp only [g.o, g.nf (f := 12) (by decide), g.nf (f := 13) (by decide), g.nf (f := 1) (by decide), g.nf (f := 2) (by decide), g.i (j := 1) (by decide), g.i (j := 2) (by decide), g.i (j := 3) (by decide), g.i (j := 4) (by decide), g.i (j := 5) (by decide), g.i (j := 7) (by decide), g.i (j := 8) (by decide)]
  exact h
theorem lcl_set {tb pb : Nat → Nat} : lcl (fun m c => setC m c P T tb pb) := by
  intro c m m' g h
  simp only [setC] at h ⊢
  simp only [g.o, g.nf (f := 7) (by decide), g.nf (f := 5) (by decide), g.nf (f := 6) (by decide), g.i (j := 1) (by decide), g.i (j := 2) (by decide), g.i (j := 3) (by decide), g.i (j := 4) (by decide)]
  exact h
theorem lcl_fl0 : lcl (fun m c => ∃ ra rb, fl0 m c pl ra rb) := by
  intro c m m' g h
  obtain ⟨ra, rb, a1, a2, a3, a4, a5, a6, a7⟩ := h
  refine ⟨ra, rb, by rw [g.o]; exact a1, by rw [g.2.1 4 (by decide)]; exact a2, by rw [g.2.1 5 (by decide)]; exact a3, ?_, ?_, a6, by rw [g.nf (by decide)]; exact a7⟩
  · rw [g.1 ra (Or.inr (by omega))]; exact a4
  · rw [g.1 rb (Or.inr (by omega))]; exact a5
theorem lcl_fl {D : Nat → Nat → Int} : lcl (fun m c => flC m c W E pl D) := by
  intro c m m' g h
  obtain ⟨ra, rb, ⟨a1, a2, a3, a4, a5, a6, a7, a8, a9⟩, h2⟩ := h
  refine ⟨ra, rb, ⟨by rw [g.o]; exact a1, by rw [g.2.1 4 (by decide)]; exact a2, by rw [g.2.1 5 (by decide)]; exact a3, ?_, ?_, a6, by rw [g.nf (by decide)]; exact a7, by rw [g.nf (by decide)]; exact a8, by rw [g.nf (by decide)]; exact a9⟩, ?_⟩
  · rw [g.1 ra (Or.inr (by omega))]; exact a4
  · rw [g.1 rb (Or.inr (by omega))]; exact a5
  · have e1 : m'.2.2.1 ra = m.2.2.1 ra := g.2.2 ra (Or.inr (by omega))
    revert h2
    generalize fZ W E D E = z
    intro h2
    cases z with
    | none => show iF m' c 2 = 1; rw [g.nf (by decide)]; exact h2
    | some S =>
      obtain ⟨b1, b2, b3, b4⟩ := h2
      refine ⟨by rw [g.nf (by decide)]; exact b1, by rw [g.nf (by decide)]; exact b2, ?_, ?_⟩
      · unfold fcR; rw [e1]; exact b3
      · rw [g.i (j := 6) (by decide)]; exact b4
theorem flC.b0 {m : mMem} {c : Nat} {D : Nat → Nat → Int} (h : flC m c W E pl D) : ∃ ra rb, fl0 m c pl ra rb := by
  obtain ⟨ra, rb, ⟨a1, a2, a3, a4, a5, a6, a7, a8, a9⟩, h2⟩ := h
  exact ⟨ra, rb, a1, a2, a3, a4, a5, a6, a7⟩
end LCL
/-- a cache: not yet made, or made, and true when its version is the newest -/
def caK (m : mMem) (x f s ci w : Nat) (PM OK : mMem → Nat → Prop) : Prop :=
  (m.2.1 x f = .null ∧ ∀ a, gwN (64 * x + s) a → m.1 a = none) ∨ (m.2.1 x f = .ref (64 * x + s) ∧ m.1 (64 * x + s) = some (.inr ci) ∧ PM m (64 * x + s) ∧ ∃ v, v ≤ w ∧ iF m (64 * x + s) 0 = nI v ∧ (v = w → OK m (64 * x + s)))
section CAK
variable {F : Nat → Nat → Prop} {N : Nat → Prop} {m m' : mMem} {x n f s ci w w' u u2 P T len : Nat} {PM OK OK' : mMem → Nat → Prop} {tk pt : Nat → Nat → Nat} {fi tx : Nat → Nat} {V : aV}
theorem caK.fr (hC : caK m x f s ci w PM OK) (h : gFr F N u u2 m m') (l1 : lcl PM) (l2 : lcl OK) (q1 : ¬ N x) (q2 : ¬ F x f) (q3 : ∀ a, gwN (64 * x + s) a → ¬ N a) (q4 : ∀ f, ¬ F (64 * x + s) f) : caK m' x f s ci w PM OK := by
  have g := h.ag q3 (fun f _ => q4 f)
  rcases hC with ⟨a1, a2⟩ | ⟨a1, a2, a3, v, a4, a5, a6⟩
  · exact Or.inl ⟨by rw [h.fl q1 q2]; exact a1, fun a ha => by rw [h.ty (q3 a ha)]; exact a2 a ha⟩
  · exact Or.inr ⟨by rw [h.fl q1 q2]; exact a1, by rw [g.o]; exact a2, l1 _ _ _ g a3, v, a4, by rw [h.nf (q3 _ (Or.inl rfl)) (q4 0)]; exact a5, fun e => l2 _ _ _ g (a6 e)⟩
theorem caK.up (hC : caK m x f s ci w PM OK) (hw : w < w') : caK m x f s ci w' PM OK' := by
  rcases hC with a | ⟨a1, a2, a3, v, a4, a5, a6⟩
  · exact Or.inl a
  · exact Or.inr ⟨a1, a2, a3, v, by omega, a5, fun e => by omega⟩
theorem cNet.fr (hN : cNet m n P T tk pt fi) (h : gFr F N u u2 m m') (q : ∀ a, gwN n a → ¬ N a) (q2 : ∀ f, ¬ F n f) : cNet m' n P T tk pt fi := by
  obtain ⟨a1, a2, a3, a4, a5, a6⟩ := hN
  have hn : ¬ N n := q n (Or.inl rfl)
  refine ⟨h.ob a1 hn, by rw [h.nf hn (q2 0)]; exact a2, by rw [h.nf hn (q2 1)]; exact a3, ?_, ?_, ?_⟩
  · rw [h.i (q _ (Or.inr (by omega)))]; exact a4
  · rw [h.i (q _ (Or.inr (by omega)))]; exact a5
  · rw [h.i (q _ (Or.inr (by omega)))]; exact a6
theorem cS.fr (hS : cS m x n P T tk pt fi V) (h : gFr F N u u2 m m') (q : ∀ a, gwN n a → ¬ N a) (q2 : ∀ f, ¬ F n f) (q3 : ∀ a, a = x ∨ (64 * x + 4 ≤ a ∧ a ≤ 64 * x + 6) → ¬ N a) (q4 : ∀ f, f = 1 ∨ f = 6 → ¬ F x f) : cS m' x n P T tk pt fi V := by
  obtain ⟨hO, hn, hN, hk, s1, s2, s3, s4, s5, s6, s7, s8⟩ := hS
  have hx : ¬ N x := q3 x (Or.inl rfl)
  refine ⟨h.ob hO hx, by rw [h.fl hx (q4 1 (Or.inl rfl))]; exact hn, hN.fr h q q2, hk, ?_, s2, ?_, s4, by rw [h.nf hx (q4 6 (Or.inr rfl))]; exact s5, s6, ?_, s8⟩
  · rw [h.i (q3 _ (Or.inr (by omega)))]; exact s1
  · rw [h.i (q3 _ (Or.inr (by omega)))]; exact s3
  · rw [h.i (q3 _ (Or.inr (by omega)))]; exact s7
theorem cTxt.fr (hX : cTxt m n tx len) (h : gFr F N u u2 m m') (q : ∀ a, gwN n a → ¬ N a) (q2 : ¬ F n 0) : cTxt m' n tx len := by
  obtain ⟨a1, a2, a3, a4, a5⟩ := hX
  have hn : ¬ N n := q n (Or.inl rfl)
  refine ⟨h.ob a1 hn, by rw [h.nf hn q2]; exact a2, ?_, a4, a5⟩
  rw [h.i (q _ (Or.inr (by omega)))]; exact a3
end CAK
