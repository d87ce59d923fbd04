/-! The class Unfolding: it is built. -/
def ubA (c j : Nat) : Prop := 64 * c + 1 ≤ j ∧ j ≤ 64 * c + 13
def ubF (c k f : Nat) : Prop := k = c ∧ 0 < f
/-- what a built unfolding holds -/
def unfC (m : mMem) (c P T : Nat) (tk pt : Nat → Nat → Nat) (mk : Nat → Nat) : Prop := (m.1 c = some (.inr 7) ∧ c ≠ 0) ∧ ((iF m c 3 = 1 ∧ (uTg P T tk mk ∨ uGr P T tk pt mk)) ∨ (iF m c 3 = 0 ∧ ¬ (uTg P T tk mk ∨ uGr P T tk pt mk) ∧ uGd P T tk (uZ P T tk pt mk) ∧ ucE P tk pt mk m c (uZ P T tk pt mk) ∧ ucC (tnS P tk) m c (uZ P T tk pt mk)))
section CUB
variable {P T c n d r lr : Nat} {tk pt : Nat → Nat → Nat} {fi mk : Nat → Nat} {U : uS} {m : mMem} {Q : Option Value → mMem → Prop}
theorem ev_ubSize (hd : 13 ≤ d) (hk : okNet P T tk pt fi) (hn : ∀ a, gwN n a → ¬ gwN c a) (hg : ¬ uTg P T tk mk) (hO : m.1 c = some (.inr 7) ∧ c ≠ 0) (hN : cNet m n P T tk pt fi) (hA : m.1 r = some (.inl (.int, lr)) ∧ r ≠ 0)
    (hQ : ∀ m', mTo (ubA c) (ubF c) m m' → unfC m' c P T tk pt mk → Q none m') :
    ∀ k s m1 U, k + s = 32 → 1 ≤ s → mTo (ubA c) (ubF c) m m1 → uGd P T tk U → uRe P T tk pt mk U → uDn P T tk pt mk U (s * 33554432) → ucE P tk pt mk m1 c U → ucC (tnS P tk) m1 c U → iF m1 c 3 = 0 → mEs d 123 c g123 (81, [some (.ref c), some (.ref n), some (.ref r), some (.int (nI s))], [], m1) Q := by
  have hn9 : ∀ t, t < T → tnS P tk t ≤ 3 := fun t ht => Nat.le_of_not_lt fun q => hg (Or.inr ⟨t, ht, q⟩)
  have frm : ∀ {m1}, mTo (ubA c) (ubF c) m m1 → cNet m1 n P T tk pt fi := fun T1 => hN.fr (T1.fr (F := fun _ _ => False) (N := gwN c) (fun _ z => by unfold ubA at z; unfold gwN; omega) (fun _ _ z => Or.inr (Or.inl z.1))) hn (fun _ => id)
  intro k
  induction k with
  | zero =>
    intro s m1 U hs h1 T1 G R D E C h3
    have hE := G.2.1
    have fin := R.fin G D (by omega)
    refine bk123_81 T1.wt (T1.ob hO) (T1.ob hN.1) (T1.ob hA) ?_
    refine ⟨fun _ => hQ m1 T1 ⟨T1.ob hO, Or.inr ⟨h3, ?_, ?_⟩⟩, fun z => absurd ((nI_ltI (a := 31) (by omega) (by omega)).mpr (by omega)) z⟩
    · rintro (z | z)
      · exact hg z
      · unfold uGr at z
        rw [fin] at z
        have := G.2.2.1
        omega
    · rw [fin]; exact ⟨G, E, C⟩
  | succ k ih =>
    intro s m1 U hs h1 T1 G R D E C h3
    have hE := G.2.1
    refine bk123_81 T1.wt (T1.ob hO) (T1.ob hN.1) (T1.ob hA) ?_
    rw [E.1, nIinc, nI_ltI (a := uE U + 1) (by omega) (by omega), h3]
    refine ⟨fun z => absurd ((nI_ltI (a := 31) (by omega) (by omega)).mp z) (by omega), fun _ => ⟨fun z => ?_, fun z => ⟨fun y => absurd rfl y, fun _ => ?_⟩⟩⟩
    · have fin := R.fin G D z
      refine hQ m1 T1 ⟨T1.ob hO, Or.inr ⟨h3, ?_, ?_⟩⟩
      · rintro (z | z)
        · exact hg z
        · unfold uGr at z
          rw [fin] at z
          have := G.2.2.1
          omega
      · rw [fin]; exact ⟨G, E, C⟩
    · refine ev_findEvents (s := s) (U := U) hd T1.wt (T1.ob hO) (frm T1) hk hn hn9 (by omega) G R D E C h3 ?_ ?_
      · intro m2 V t2 G2 R2 D2 E2 C2 h32
        have T2 : mTo (ubA c) (ubF c) m m2 := T1.tr (t2.mono (fun _ z => by unfold pkA at z; unfold ubA; omega) (fun k f z => by unfold feF at z; unfold ubF; omega))
        refine bk123_110 T2.wt (T2.ob hO) (T2.ob hN.1) (T2.ob hA) ?_
        rintro w rfl
        rw [nIinc]
        exact ih (s + 1) m2 V (by omega) (by omega) T2 G2 R2 D2 E2 C2 h32
      · intro m2 t2 z3 gr
        have T2 : mTo (ubA c) (ubF c) m m2 := T1.tr (t2.mono (fun _ z => by unfold pkA at z; unfold ubA; omega) (fun k f z => by unfold feF at z; unfold ubF; omega))
        refine bk123_110 T2.wt (T2.ob hO) (T2.ob hN.1) (T2.ob hA) ?_
        rintro w rfl
        have q := hQ m2 T2 ⟨T2.ob hO, Or.inl ⟨z3, Or.inr gr⟩⟩
        exact bk123_81 T2.wt (T2.ob hO) (T2.ob hN.1) (T2.ob hA) ⟨fun _ => q, fun _ => ⟨fun _ => q, fun _ => ⟨fun _ => q, fun z => absurd z3 (fun w => z (by rw [w]; decide))⟩⟩⟩
theorem ev_ubuild (hd : 14 ≤ d) (hT : mWT m) (hO : m.1 c = some (.inr 7) ∧ c ≠ 0) (hN : cNet m n P T tk pt fi) (hk : okNet P T tk pt fi) (hn : ∀ a, gwN n a → ¬ gwN c a) (hA : m.1 r = some (.inl (.int, lr)) ∧ r ≠ 0) (hl : 10 ≤ lr) (hrc : ∀ i, i < 64 → r ≠ 64 * c + i) (hr : ∀ p, p < 10 → m.2.2.1 r p = nI (mk p)) (hm : ∀ p, mk p ≤ 99)
    (hQ : ∀ m', mTo (ubA c) (ubF c) m m' → unfC m' c P T tk pt mk → Q none m') : mEv d 123 [.ref c, .ref n, .ref r] m Q := by
  have hP10 := hk.1
  have hnc : n ≠ c := fun e => hn n (Or.inl rfl) (Or.inl e)
  have frm : ∀ {m1}, mTo (ubA c) (ubF c) m m1 → cNet m1 n P T tk pt fi := fun T1 => hN.fr (T1.fr (F := fun _ _ => False) (N := gwN c) (fun _ z => by unfold ubA at z; unfold gwN; omega) (fun _ _ z => Or.inr (Or.inl z.1))) hn (fun _ => id)
  have frr : ∀ {m1}, mTo (ubA c) (ubF c) m m1 → m1.2.2.1 r = m.2.2.1 r := fun T1 => T1.i (fun z => by
    unfold ubA at z
    exact hrc (r - 64 * c) (by omega) (by omega))
  refine mEv.at (by omega) G123 (Nat.le_of_ble_eq_true rfl) ?_
  refine bk123_0 hT hO hN.1 hA (by omega) ?_
  intro m1 h1 m2 h2 m3 h3
  have T3 : mTo (ubA c) (ubF c) m m3 := by
    rw [h3, h2, h1]
    exact (((mTo.rf hT).sF hO ⟨rfl, by decide⟩ (by decide)).sF hO ⟨rfl, by decide⟩ (by decide)).sF hO ⟨rfl, by decide⟩ (by decide)
  have a1 : iF m3 c 1 = nI 0 := by rw [h3, iF_nf (by decide), h2, iF_nf (by decide), h1, iF_s]; rfl
  have a2 : iF m3 c 2 = nI 0 := by rw [h3, iF_nf (by decide), h2, iF_s]; rfl
  have a17 : iF m3 c 17 = nI P := by rw [h3, iF_s, h2, iF_nk hnc, h1, iF_nk hnc]; exact hN.2.1
  clear h1 h2 h3
  refine ⟨⟨by decide, by decide, by decide, ?_, by decide⟩, ?_⟩
  · show 0 + 10 ≤ lr
    omega
  intro m4 h4
  have T4 : mTo (ubA c) (ubF c) m m4 := by rw [h4]; exact T3.sI (by unfold ubA; omega)
  have b1 : iF m4 c 1 = nI 0 := by rw [h4]; exact a1
  have b2 : iF m4 c 2 = nI 0 := by rw [h4]; exact a2
  have b17 : iF m4 c 17 = nI P := by rw [h4]; exact a17
  have bst : ∀ p, p < 10 → m4.2.2.1 (64 * c + 10) p = nI (mk p) := by
    intro p hp
    rw [h4, rdI_same, show (0 : Int32).toNatClampNeg = 0 from rfl, show (10 : Int32).toNatClampNeg = 10 from rfl, cp_in (by omega) (by omega), frr T3, show 0 + (p - 0) = p by omega]
    exact hr p hp
  clear h4
  refine ev_tooGreatU (mk := mk) (by omega) T4.wt (T4.ob hO) (frm T4) hk b17 bst hm ?_
  refine bk123_36 T4.wt (T4.ob hO) (T4.ob hN.1) (T4.ob hA) (T4.ob hO) ⟨bz_01 _, ?_⟩
  intro m5 h5
  have T5 : mTo (ubA c) (ubF c) m m5 := by rw [h5]; exact T4.sF hO ⟨rfl, by decide⟩ (by decide)
  have c1 : iF m5 c 1 = nI 0 := by rw [h5, iF_nf (by decide)]; exact b1
  have c2 : iF m5 c 2 = nI 0 := by rw [h5, iF_nf (by decide)]; exact b2
  have c17 : iF m5 c 17 = nI P := by rw [h5, iF_nf (by decide)]; exact b17
  have c3 : iF m5 c 3 = bz (uTg P T tk mk) := by rw [h5, iF_s]
  have cst : ∀ p, p < 10 → m5.2.2.1 (64 * c + 10) p = nI (mk p) := by intro p hp; rw [h5]; exact bst p hp
  clear h5
  refine ev_fill (by omega) T5.wt (T5.wt.arr (T5.ob hO) 12 rfl (by decide)) (by decide) ?_
  generalize h6 : mSetI m5 (64 * c + 13) (filled (m5.2.2.1 (64 * c + 13)) 0 3 0) = m6
  have T6 : mTo (ubA c) (ubF c) m m6 := by rw [← h6]; exact T5.sI (by unfold ubA; omega)
  have e1 : iF m6 c 1 = nI 0 := by rw [← h6]; exact c1
  have e2 : iF m6 c 2 = nI 0 := by rw [← h6]; exact c2
  have e17 : iF m6 c 17 = nI P := by rw [← h6]; exact c17
  have e3 : iF m6 c 3 = bz (uTg P T tk mk) := by rw [← h6]; exact c3
  have est : ∀ p, p < 10 → m6.2.2.1 (64 * c + 10) p = nI (mk p) := by intro p hp; rw [← h6, rdI_ne (by omega)]; exact cst p hp
  clear h6
  refine bk123_47 T6.wt (T6.ob hO) (T6.ob hN.1) (T6.ob hA) ?_
  have bad : ∀ m1 s (v : Int32), s = v → mTo (ubA c) (ubF c) m m1 → iF m1 c 3 = 1 → uTg P T tk mk ∨ uGr P T tk pt mk → mEs (d - 1) 123 c g123 (81, [some (.ref c), some (.ref n), some (.ref r), some (.int v)], [], m1) Q := by
    intro m1 s v _ T1 z3 g
    have q := hQ m1 T1 ⟨T1.ob hO, Or.inl ⟨z3, g⟩⟩
    exact bk123_81 T1.wt (T1.ob hO) (T1.ob hN.1) (T1.ob hA) ⟨fun _ => q, fun _ => ⟨fun _ => q, fun _ => ⟨fun _ => q, fun z => absurd z3 (fun w => z (by rw [w]; decide))⟩⟩⟩
  have badp : ∀ m1 (v : Int32), mTo (ubA c) (ubF c) m m1 → iF m1 c 3 = 1 → uTg P T tk mk ∨ uGr P T tk pt mk → mEs (d - 1) 123 c g123 (49, [some (.ref c), some (.ref n), some (.ref r), some (.int v)], [], m1) Q := by
    intro m1 v T1 z3 g
    have q := bad m1 1 1 rfl T1 z3 g
    exact bk123_49 T1.wt (T1.ob hO) (T1.ob hN.1) (T1.ob hA) ⟨fun _ => q, fun _ => ⟨fun _ => q, fun z => absurd z3 (fun w => z (by rw [w]; decide))⟩⟩
  by_cases hg : uTg P T tk mk
  · exact badp m6 0 T6 (by rw [e3, bz_t hg]) (Or.inl hg)
  rw [bz_f hg] at e3
  have loop : ∀ k p m1, k + p = P → mTo (ubA c) (ubF c) m m1 → uC (uAp u00 mk 0 p) ≤ 80 → ucC (tnS P tk) m1 c (uAp u00 mk 0 p) → iF m1 c 3 = 0 → iF m1 c 1 = nI 0 → iF m1 c 17 = nI P → (∀ p, p < 10 → m1.2.2.1 (64 * c + 10) p = nI (mk p)) → mEs (d - 1) 123 c g123 (49, [some (.ref c), some (.ref n), some (.ref r), some (.int (nI p))], [], m1) Q := by
    intro k
    induction k with
    | zero =>
      intro p m1 hp T1 hC C1 z3 z1 z17 zst
      obtain rfl : p = P := by omega
      refine bk123_49 T1.wt (T1.ob hO) (T1.ob hN.1) (T1.ob hA) ?_
      rw [z17]
      refine ⟨fun _ => ?_, fun z => absurd ((nIle (by omega) (by omega)).mpr (Nat.le_refl _)) z⟩
      have e0 : uE (uIn p mk) = 0 := (uAp_mo (U := u00) (g := mk) (o := 0) (P := p) (by decide) p (Nat.le_refl _)).1
      refine ev_ubSize (m := m) (by omega) hk hn hg hO hN hA hQ 31 1 m1 (uIn p mk) (by omega) (by omega) T1 (uIn_gd hC) uRe_0 (uDn_0 e0) ⟨by rw [e0]; exact z1, z17, zst, fun e he => by omega⟩ C1 z3
    | succ k ih =>
      intro p m1 hp T1 hC C1 z3 z1 z17 zst
      refine bk123_49 T1.wt (T1.ob hO) (T1.ob hN.1) (T1.ob hA) ?_
      rw [z17, z3, nIle (by omega) (by omega), nI_clamp (by omega), frr T1, hr p (by omega)]
      refine ⟨fun z => by omega, fun _ => ⟨fun z => absurd rfl z, fun _ => ⟨(nIin_iff (by omega)).mpr (by omega), ?_⟩⟩⟩
      have hmp := hm p
      have M := uAp_mo (U := u00) (g := mk) (o := 0) (P := P) (by decide) p (by omega)
      refine ev_addCond (P := P) (U0 := u00) (V := uAp u00 mk 0 p) (o := 0) (p := p) (n := mk p) (by omega) T1.wt (T1.ob hO) (by omega) hP10 (by omega) (by omega) M hC C1 z3 ?_ ?_ ?_ ?_
      · intro k hk
        rw [((M.2.2.2.2.2.2 hC).2 k (Nat.zero_le _) hk).2]
        omega
      · intro W MW hW k y _ hk hy
        obtain ⟨w1, w2⟩ := MW.2.2.2.2.2.2 hW
        have o1 := (w2 k (Nat.zero_le _) hk).2
        have o2 := (w2 y (Nat.zero_le _) (by omega)).2
        exact ⟨fun _ => Or.inl o2, fun _ => (uCo_0 MW.1 o1 o2).mpr (by omega)⟩
      · intro m2 t2 y3 yC y4
        have T2 : mTo (ubA c) (ubF c) m m2 := T1.tr (t2.mono (fun _ z => by unfold acA at z; unfold ubA; omega) (fun k f z => by unfold acF at z; unfold ubF; omega))
        refine bk123_73 T2.wt (T2.ob hO) (T2.ob hN.1) (T2.ob hA) ?_
        rintro w rfl
        rw [nIinc]
        refine ih (p + 1) m2 (by omega) T2 yC y4 y3 ?_ ?_ ?_
        · rw [t2.nf (fun z => by unfold acF at z; omega)]; exact z1
        · rw [t2.nf (fun z => by unfold acF at z; omega)]; exact z17
        · intro p hp
          rw [t2.i (fun z => by unfold acA at z; omega)]; exact zst p hp
      · intro m2 t2 y3 yC _
        have T2 : mTo (ubA c) (ubF c) m m2 := T1.tr (t2.mono (fun _ z => by unfold acA at z; unfold ubA; omega) (fun k f z => by unfold acF at z; unfold ubF; omega))
        refine bk123_73 T2.wt (T2.ob hO) (T2.ob hN.1) (T2.ob hA) ?_
        rintro w rfl
        refine badp m2 _ T2 y3 (Or.inr (Or.inl ?_))
        have y5 : uC (uAp u00 mk 0 (p + 1)) = 81 := yC
        have y6 := uAp_81 y5 k
        rw [show p + 1 + k = P by omega] at y6
        have : uZ P T tk pt mk = uIn P mk := uRe_0.z (Or.inl y6)
        rw [this]; exact y6
  exact loop P 0 m6 (by omega) T6 (Nat.zero_le _) ⟨e2, fun k hk => absurd hk (Nat.not_lt_zero _), fun x y hx => absurd hx (Nat.not_lt_zero _)⟩ e3 e1 e17 est
end CUB
