/-! The model: flow(), kept(). -/
noncomputable def flF (pl : Prop) (P T : Nat) (tk pt : Nat → Nat → Nat) : Option fwS := fZ (wP pl P T) (wE pl P T) (dF pl tk pt) (wE pl P T)
noncomputable def flowT2 (pl : Prop) (P T : Nat) (tk pt : Nat → Nat → Nat) (y z : Int32) : Int32 := match flF pl P T tk pt with
  | none => -2
  | some S => cif (y = -1) (nI S.1) (flwT (wP pl P T) S y z)
noncomputable def flowA (P T : Nat) (tk pt : Nat → Nat → Nat) (x y z : Int32) : Int32 := cif (0 < P ∧ (x = 0 ∨ x = 1) ∧ ¬ y < -1 ∧ (y = -1 ∨ pIx (wP (x = 0) P T) z)) (flowT2 (x = 0) P T tk pt y z) (-1)
noncomputable def keptT2 (P T : Nat) (tk pt : Nat → Nat → Nat) (mk : Nat → Nat) (y : Int32) : Int32 := match flF (nI 0 = 0) P T tk pt with
  | none => -2
  | some S => keptT (wP (nI 0 = 0) P T) S mk y
noncomputable def keptA (P T : Nat) (tk pt : Nat → Nat → Nat) (mk : Nat → Nat) (y : Int32) : Int32 := cif (0 < P ∧ 0 ≤ y) (keptT2 P T tk pt mk y) (-1)
def moG (o k f : Nat) : Prop := k = o ∧ (f = 0 ∨ f = 39 ∨ f = 41 ∨ f = 42)
/-- the flows as far as they are laid -/
def mFk (m : mMem) (o P T : Nat) (tk pt : Nat → Nat → Nat) : Prop := ∀ x, x < 2 → m.2.2.1 (64 * o + 21) x = 0 ∨ mFl m o x (wP (nI x = 0) P T) (wE (nI x = 0) P T) (dF (nI x = 0) tk pt)
section MFW4
variable {d o n P T lr x : Nat} {tk pt : Nat → Nat → Nat} {fi : Nat → Nat} {V : aV} {m : mMem} {Q : Option Value → mMem → Prop}
theorem mFl_cg {m m' : mMem} {W E : Nat} {D : Nat → Nat → Int} (h : mFl m o x W E D) (hx : x < 2) (h22 : m'.2.2.1 (64 * o + 22) x = m.2.2.1 (64 * o + 22) x) (h23 : ∀ i, i < 6000 → 3000 * x ≤ i → i < 3000 * x + 3000 → m'.2.2.1 (64 * o + 23) i = m.2.2.1 (64 * o + 23) i) (hS : ∀ S, fZ W E D E = some S → S.1 ≤ 300) : mFl m' o x W E D := by
  unfold mFl at *
  cases hz : fZ W E D E with
  | none => rw [hz] at h; show m'.2.2.1 (64 * o + 22) x = -2; rw [h22]; exact h
  | some S =>
    rw [hz] at h
    have := hS S hz
    refine ⟨by rw [h22]; exact h.1, fun i hi k hk => ?_⟩
    rw [h23 _ (by omega) (by omega) (by omega)]
    exact h.2 i hi k hk
theorem fl300 (hk : okNet P T tk pt fi) (pl : Prop) : ∀ S, flF pl P T tk pt = some S → fOk (wP pl P T) (dF pl tk pt) S := fun S hz => fZ_ok (w10 (pl := pl) hk).1 (dF_9 hk pl) (dF_E (pl := pl) hk) _ S hz
theorem mFk.to {B : Nat → Prop} {F : Nat → Nat → Prop} {m' : mMem} (hk : okNet P T tk pt fi) (h : mFk m o P T tk pt) (ht : mTo B F m m') (h1 : ¬ B (64 * o + 21)) (h2 : ¬ B (64 * o + 22)) (h3 : ¬ B (64 * o + 23)) : mFk m' o P T tk pt := by
  intro x hx
  rcases h x hx with h | h
  · exact Or.inl (by rw [ht.i h1]; exact h)
  · exact Or.inr (mFl_cg h hx (by rw [ht.i h2]) (fun i _ _ _ => by rw [ht.i h3]) (fun S hz => (fl300 hk _ S hz).1))
theorem ev_lay0 (hd : 4 ≤ d) (hT : mWT m) (hS : mS m o P T tk pt fi V) (hF : mFk m o P T tk pt) (hx : x < 2)
    (hQ : ∀ m', mTo (mlA o) (moG o) m m' → iF m' o 0 = 0 → mS m' o P T tk pt fi V → mFk m' o P T tk pt → mFl m' o x (wP (nI x = 0) P T) (wE (nI x = 0) P T) (dF (nI x = 0) tk pt) → Q none m') : mEv d 201 [.ref o, .int (nI x)] (mSetF m o 0 (.int 0)) Q := by
  obtain ⟨S1, T1⟩ := hS.th hT
  have hk := hS.2.2.1
  have F1 := hF.to hk T1 id id id
  refine ev_layFlows hd T1.wt S1.1 S1.2.1 hk hx (F1 x hx) ?_
  intro m' t' ot fl
  refine hQ m' ((T1.mono (fun _ h => h.elim) (fun k f h => ⟨h.1, Or.inl h.2⟩)).tr (t'.mono (fun _ h => h) (fun k f h => ⟨h.1, Or.inr h.2⟩))) (by rw [t'.nf (by unfold moF; omega)]; exact iF_s) (S1.to t' (fun i h1 h2 => by unfold mlA; omega) (by unfold mlA; omega) (by unfold moF; omega) (by unfold moF; omega) (by unfold moF; omega) (by unfold moF; omega)) (fun y hy => ?_) fl
  by_cases e : y = x
  · subst e; exact Or.inr fl
  · rcases F1 y hy with h | h
    · exact Or.inl (by rw [(ot.1 y hy e).1]; exact h)
    · exact Or.inr (mFl_cg h hy (ot.1 y hy e).2 (fun i hi h1 h2 => ot.2 i hi (by omega)) (fun S hz => (fl300 hk _ S hz).1))
theorem moG_th (hT : mWT m) (hS : mS m o P T tk pt fi V) : mTo (mlA o) (moG o) m (mSetF m o 0 (.int 0)) := (hS.th hT).2.mono (fun _ h => h.elim) (fun k f h => ⟨h.1, Or.inl h.2⟩)
theorem inW {N : Nat} {z : Int32} (hN : N ≤ 10) : ((0 : Int64) ≤ z.toInt64 ∧ z.toInt64 ≤ (nI N).toInt64 - 1) ↔ pIx N z := by
  have e : (nI N).toInt64 - 1 = iL ((N : Int) - 1) := by
    rw [w_n (by omega), ← iL_n, Int.sub_eq_add_neg, ← iL_add, Int64.sub_eq_add_neg]
    rfl
  rw [e, fa_le64, fa_le64, Int32.toInt_toInt64, iL_t (by omega) (by omega), show (0 : Int64).toInt = 0 from rfl]
  constructor
  · rintro ⟨h1, h2⟩
    refine ⟨z.toInt.toNat, by omega, ?_⟩
    rw [fa_eq, tI (by omega)]
    omega
  · rintro ⟨j, hj, rfl⟩
    rw [tI (by omega)]
    omega
theorem ev_flowM {x y z : Int32} (hd : 5 ≤ d) (hT : mWT m) (hS : mS m o P T tk pt fi V) (hF : mFk m o P T tk pt)
    (hQ : ∀ m', mTo (mlA o) (moG o) m m' → iF m' o 0 = 0 → mFk m' o P T tk pt → Q (some (.int (flowA P T tk pt x y z))) m') : mEv d 199 [.ref o, .int x, .int y, .int z] m Q := by
  obtain ⟨S1, T1⟩ := hS.th hT
  have hk := hS.2.2.1
  unfold flowA at hQ
  have hno : ¬ (0 < P ∧ (x = 0 ∨ x = 1) ∧ ¬ y < -1 ∧ (y = -1 ∨ pIx (wP (x = 0) P T) z)) → Q (some (.int (-1))) (mSetF m o 0 (.int 0)) := by
    intro c
    have q := hQ _ (moG_th hT hS) iF_s (hF.to hk T1 id id id)
    rw [cif_f c] at q
    exact q
  have yes : (0 < P ∧ (x = 0 ∨ x = 1) ∧ ¬ y < -1 ∧ (y = -1 ∨ pIx (wP (x = 0) P T) z)) → mEv (d - 1) 201 [.ref o, .int x] (mSetF m o 0 (.int 0)) (fun r m' => mEs (d - 1) 199 o g199 (56, [some (.ref o), some (.int x), some (.int y), some (.int z)], r.toList ++ [], m') Q) := by
    intro ask
    obtain ⟨X, hX, rfl⟩ : ∃ X : Nat, X < 2 ∧ x = nI X := by
      rcases ask.2.1 with h | h
      · exact ⟨0, by omega, h⟩
      · exact ⟨1, by omega, h⟩
    refine ev_lay0 (x := X) (by omega) hT hS hF hX ?_
    intro m' T' y0 S' F' fl
    have q := hQ m' T' y0 F'
    rw [cif_t ask] at q
    unfold flowT2 at q
    unfold mFl at fl
    have hW := (w10 (pl := nI X = 0) hk).1
    refine bk199_56 T'.wt S'.1 ?_
    rw [nI_clamp (by omega)]
    have hin : mIn (nI X) 2 = true := (nIin_iff (by omega)).mpr hX
    cases hz : flF (nI X = 0) P T tk pt with
    | none =>
      rw [hz] at q
      rw [show fZ (wP (nI X = 0) P T) (wE (nI X = 0) P T) (dF (nI X = 0) tk pt) (wE (nI X = 0) P T) = none from hz] at fl
      have fl' : m'.2.2.1 (64 * o + 22) X = -2 := fl
      rw [fl']
      exact ⟨hin, fun _ => ⟨hin, q⟩, fun c => absurd rfl c⟩
    | some S =>
      rw [hz] at q
      dsimp only at q
      rw [show fZ (wP (nI X = 0) P T) (wE (nI X = 0) P T) (dF (nI X = 0) tk pt) (wE (nI X = 0) P T) = some S from hz] at fl
      obtain ⟨f1, f2⟩ := fl
      have hSk := fl300 hk _ S hz
      have h300 := hSk.1
      rw [f1]
      have nn : ¬ nI S.1 = -2 := by
        intro c
        have := nI_nlt0 (show S.1 < 2 ^ 31 by omega)
        rw [c] at this
        exact this (by decide)
      refine ⟨hin, fun c => absurd c nn, fun _ => ⟨fun cy => ⟨hin, ?_⟩, fun cy => ⟨hin, ?_⟩⟩⟩
      · rw [cif_f cy] at q
        unfold flwT at q
        have hy0 : ¬ y < 0 := by
          intro w
          have h1 := ask.2.2.1
          rw [fa_lt] at w h1
          rw [fa_eq] at cy
          have e1 : (-1 : Int32).toInt = -1 := rfl
          have e0 : (0 : Int32).toInt = 0 := rfl
          omega
        obtain ⟨w, hw, rfl⟩ := ask.2.2.2.resolve_left cy
        rcases pk_ix y (n := S.1) (by omega) with h | h | ⟨j, hj, rfl⟩
        · exact absurd h hy0
        · rw [cif_f] at q
          · exact ⟨fun _ => q, fun c => absurd h c⟩
          · rintro ⟨j, h1, rfl⟩; rw [nIle (by omega) (by omega)] at h; omega
        · rw [cif_t ⟨j, hj, rfl⟩, nI_clamp (by omega), nI_clamp (by omega)] at q
          rw [nIle (by omega) (by omega), l3000, l10, nI_mul, nI_mul, nI_add, nI_add, nI_clamp (by omega), f2 j hj w (by omega)]
          exact ⟨fun c => by omega, fun _ => ⟨(nIin_iff (by omega)).mpr (by omega), q⟩⟩
      · rw [cif_t (Classical.not_not.mp cy)] at q; exact q
  refine mEv.at (by omega) G199 (Nat.le_of_ble_eq_true rfl) ?_
  refine bk199_0 hT hS.1 ?_
  rintro m1 rfl
  rw [S1.2.2.2.1, bz_0]
  refine ⟨fun c => hno (fun h => c h.1), fun c => ?_⟩
  refine ev_in (by omega) T1.wt ?_
  rw [bz_cg in01]
  refine bk199_19 T1.wt S1.1 ?_
  rw [bz_0]
  refine ⟨fun c2 => hno (fun h => c2 h.2.1), fun c2 => ⟨fun c3 => hno (fun h => h.2.2.1 c3), fun c3 => ⟨fun c4 => ?_, fun c4 => ?_⟩⟩⟩
  · exact yes ⟨Classical.not_not.mp c, Classical.not_not.mp c2, c3, Or.inl c4⟩
  · refine ev_width (by omega) T1.wt S1.1 S1.2.1 ?_
    refine bk199_40 T1.wt S1.1 ?_
    refine ev_in (by omega) T1.wt ?_
    rw [bz_cg (inW (w10 (pl := x = 0) hk).1)]
    refine bk199_46 T1.wt S1.1 ?_
    rw [bz_n0]
    exact ⟨fun c5 => yes ⟨Classical.not_not.mp c, Classical.not_not.mp c2, c3, Or.inr c5⟩, fun c5 => hno (fun h => h.2.2.2.elim c4 c5)⟩
theorem ev_keptM {y : Int32} (hd : 5 ≤ d) (hT : mWT m) (hS : mS m o P T tk pt fi V) (hF : mFk m o P T tk pt)
    (hQ : ∀ m', mTo (mlA o) (moG o) m m' → iF m' o 0 = 0 → mFk m' o P T tk pt → Q (some (.int (keptA P T tk pt V.1 y))) m') : mEv d 210 [.ref o, .int y] m Q := by
  obtain ⟨S1, T1⟩ := hS.th hT
  have hk := hS.2.2.1
  unfold keptA at hQ
  have hno : ¬ (0 < P ∧ 0 ≤ y) → Q (some (.int (-1))) (mSetF m o 0 (.int 0)) := by
    intro c
    have q := hQ _ (moG_th hT hS) iF_s (hF.to hk T1 id id id)
    rw [cif_f c] at q
    exact q
  refine mEv.at (by omega) G210 (Nat.le_of_ble_eq_true rfl) ?_
  refine bk210_0 hT hS.1 ?_
  rintro m1 rfl
  rw [S1.2.2.2.1, bz_0]
  refine ⟨fun c => hno (fun h => c h.1), fun c => ⟨fun c2 => ?_, fun c2 => hno (fun h => c2 h.2)⟩⟩
  refine ev_lay0 (x := 0) (by omega) hT hS hF (by omega) ?_
  intro m' T' y0 S' F' fl
  have q := hQ m' T' y0 F'
  rw [cif_t ⟨Classical.not_not.mp c, c2⟩] at q
  unfold keptT2 at q
  unfold mFl at fl
  have hW := (w10 (pl := nI 0 = 0) hk).1
  have eW : wP (nI 0 = 0) P T = P := cif_t rfl
  refine bk210_23 T'.wt S'.1 ?_
  simp only [c0c]
  cases hz : flF (nI 0 = 0) P T tk pt with
  | none =>
    rw [hz] at q
    rw [show fZ (wP (nI 0 = 0) P T) (wE (nI 0 = 0) P T) (dF (nI 0 = 0) tk pt) (wE (nI 0 = 0) P T) = none from hz] at fl
    have fl' : m'.2.2.1 (64 * o + 22) 0 = -2 := fl
    rw [fl']
    exact ⟨by decide, fun c => absurd rfl c, fun _ => q⟩
  | some S =>
    rw [hz] at q
    dsimp only at q
    rw [show fZ (wP (nI 0 = 0) P T) (wE (nI 0 = 0) P T) (dF (nI 0 = 0) tk pt) (wE (nI 0 = 0) P T) = some S from hz] at fl
    obtain ⟨f1, f2⟩ := fl
    have hSk := fl300 hk _ S hz
    have h300 := hSk.1
    rw [f1]
    have nn : ¬ nI S.1 = -2 := by
      intro c
      have := nI_nlt0 (show S.1 < 2 ^ 31 by omega)
      rw [c] at this
      exact this (by decide)
    refine ⟨by decide, fun _ => ⟨by decide, ?_⟩, fun c => absurd nn c⟩
    unfold keptT at q
    rw [eW] at q f2
    rcases pk_ix y (n := S.1) (by omega) with h | h | ⟨j, hj, rfl⟩
    · exact absurd c2 (fun z => by rw [fa_le] at z; rw [fa_lt] at h; omega)
    · rw [cif_f] at q
      · exact ⟨fun c => absurd h (Int32.not_le.mpr c), fun _ => q⟩
      · rintro ⟨j, h1, rfl⟩; rw [nIle (by omega) (by omega)] at h; omega
    · rw [cif_t ⟨j, hj, rfl⟩, nI_clamp (by omega)] at q
      refine ⟨fun _ => ?_, fun c => absurd ((nI_ltI (by omega) (by omega)).mpr hj) c⟩
      -- the row of this flow is one of the rows
      have hlt : fIx P S j < S.1 := by
        have h1 := uU_1024 (eW ▸ hW) (by rw [eW] at hSk; exact hSk)
        obtain ⟨k1, ⟨r, k2, k3⟩, k4⟩ := kth_ok (C := uU P S) (N := 1024) (k := j) (by omega)
        have ha := lsN_all (fun r => uB P (S.2 r) = kth (uU P S) 1024 j) S.1
        refine Nat.lt_of_not_le fun z => ?_
        exact ha.2.2 r (Nat.lt_of_lt_of_le k2 z) k3
      have hrb := (hSk.2.1 _ hlt).2.1
      have hsb := wSum_b (mk := V.1) hrb S'.2.2.2.2.2.1
      have hP10 := hk.1
      refine upto (e := P) (X := fun k => mEs (d - 1) 210 o g210 (54, [some (.ref o), some (.int (nI j)), some (.long (lN (fb_sm (fun k => S.2 (fIx P S j) k * V.1 k) k))), none, some (.int (nI k))], [], m') Q) ?_ ?_ 0 (Nat.zero_le _)
      · have hb := hsb P
        refine bk210_54 T'.wt S'.1 ?_
        rw [S'.2.1.1, nIle (by omega) (by omega), lg_cmp_le, show (2147483647 : Int64) = lN 2147483647 from rfl, pk_lLE (by omega) (by decide)]
        unfold cap2 wSum at q
        refine ⟨fun _ => ⟨fun c3 => ?_, fun c3 => ?_⟩, fun c => absurd (Nat.le_refl _) c⟩
        · rw [if_neg (by omega)] at q
          rw [n_Ln (by omega)]; exact q
        · rw [if_pos (by omega)] at q; exact q
      · intro k hk' ih
        have h1 := hrb k
        have h2 := S'.2.2.2.2.2.1 k
        refine bk210_54 T'.wt S'.1 ?_
        have f2' := f2 j hj k (by omega)
        rw [show 3000 * 0 + 10 * j + k = 10 * j + k by omega] at f2'
        rw [S'.2.1.1, nIle (by omega) (by omega), nI_clamp (by omega), S'.2.2.2.2.1 k (by omega), l10, nI_mul, nI_add, nI_clamp (by omega), f2', w_n (by omega), w_n (by omega), nIinc, ← iL_n, ← iL_n, ← iL_n, iL_mul, iL_add, ← Int.natCast_mul, ← Int.natCast_add, iL_n, Nat.mul_comm (V.1 k)]
        refine ⟨fun c => by omega, fun _ => ⟨(nIin_iff (by omega)).mpr (by omega), (nIin_iff (by omega)).mpr (by omega), ?_⟩⟩
        rintro v rfl v2 rfl
        exact ih
end MFW4
