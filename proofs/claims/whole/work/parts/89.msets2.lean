/-! The model: least(), trapIn(), caught(). -/
noncomputable def leastA (P T : Nat) (tk pt : Nat → Nat → Nat) (x y : Int32) : Int32 := cif (0 < P ∧ (x = 0 ∨ x = 1) ∧ -1 ≤ y) (cif (y = -1) (nI (cct (setK T (tbS P tk) (tbS P pt) x) (2 ^ P))) (lstT (setK T (tbS P tk) (tbS P pt) x) P y)) (-1)
noncomputable def trapA (P T : Nat) (tk pt : Nat → Nat → Nat) (y : Int32) : Int32 := cif (0 < P ∧ pIx (2 ^ P) y) (nI (gtN T (tbS P tk) (tbS P pt) y.toNatClampNeg)) (-1)
noncomputable def caughtA (P T : Nat) (tk pt : Nat → Nat → Nat) (mk : Nat → Nat) : Int32 := cif (0 < P) (bz (allM P T (tbS P tk) (tbS P pt) mk)) (-1)
theorem p2L : ∀ P, P ≤ 10 → ((1 : Int64) <<< ((nI P).toInt64 &&& 63)) - 1 = (nI (2 ^ P - 1)).toInt64 := by decide +kernel
theorem tI {j : Nat} (h : j < 2 ^ 31) : (nI j).toInt = (j : Int) := Int32.toInt_ofNat_of_lt (by omega)
theorem inB {N : Nat} {z : Int32} (h0 : 0 < N) (hN : N ≤ 1024) : ((0 : Int64) ≤ z.toInt64 ∧ z.toInt64 ≤ (nI (N - 1)).toInt64) ↔ pIx N z := by
  rw [fa_le64, fa_le64, Int32.toInt_toInt64, Int32.toInt_toInt64, show (0 : Int64).toInt = 0 from rfl, tI (by omega)]
  constructor
  · rintro ⟨h1, h2⟩
    refine ⟨z.toInt.toNat, by omega, ?_⟩
    rw [fa_eq, tI (by omega)]
    omega
  · rintro ⟨j, hj, rfl⟩
    rw [tI (by omega)]
    omega
def m27 (o k : Nat) : Prop := k = 64 * o + 27
def mF0 (o k f : Nat) : Prop := k = o ∧ f = 0
section MSET2
variable {d o n P T r lr s : Nat} {tk pt : Nat → Nat → Nat} {fi mk : Nat → Nat} {a b tb pb f : Nat → Nat} {V : aV} {m : mMem} {Q : Option Value → mMem → Prop}
theorem mF0_th (hT : mWT m) (hS : mS m o P T tk pt fi V) : mTo (m27 o) (mF0 o) m (mSetF m o 0 (.int 0)) := (hS.th hT).2.mono (fun _ h => h.elim) (fun k f h => h)
theorem ev_leastM {x y : Int32} (hd : 4 ≤ d) (hT : mWT m) (hS : mS m o P T tk pt fi V)
    (hQ : ∀ m', mTo (m27 o) (mF0 o) m m' → iF m' o 0 = 0 → Q (some (.int (leastA P T tk pt x y))) m') : mEv d 211 [.ref o, .int x, .int y] m Q := by
  obtain ⟨S1, T1⟩ := hS.th hT
  have hP10 := hS.2.2.1.1
  have hp2 := p2_10 hP10
  have hp1 := p2_1 (P := P)
  unfold leastA at hQ
  rw [setK_k] at hQ
  have hno : ¬ (0 < P ∧ (x = 0 ∨ x = 1) ∧ -1 ≤ y) → Q (some (.int (-1))) (mSetF m o 0 (.int 0)) := by
    intro c
    have q := hQ _ (mF0_th hT hS) iF_s
    rw [cif_f c] at q
    exact q
  refine mEv.at (by omega) G211 (Nat.le_of_ble_eq_true rfl) ?_
  refine bk211_0 hT hS.1 ?_
  rintro m1 rfl
  rw [S1.2.2.2.1, bz_0]
  refine ⟨fun c => hno (fun h => c h.1), fun c => ?_⟩
  refine ev_in (by omega) T1.wt ?_
  rw [bz_cg in01]
  refine bk211_19 T1.wt S1.1 ?_
  rw [bz_0]
  refine ⟨fun c2 => hno (fun h => c2 h.2.1), fun c2 => ⟨fun c3 => ?_, fun c3 => hno (fun h => c3 h.2.2)⟩⟩
  refine ev_laySiphons (x := x) (by omega) T1.wt S1.1 S1.2.1 S1.2.2.1 ?_
  intro m' t' hI
  have T' : mTo (m27 o) (mF0 o) m m' := (mF0_th hT hS).tr (t'.mono (fun k h => h) (fun _ _ h => h.elim))
  have S' := S1.to t' (fun i h1 h2 => by omega) (by omega) id id id id
  have q := hQ m' T' (by rw [t'.nf id]; exact iF_s)
  rw [cif_t ⟨Classical.not_not.mp c, Classical.not_not.mp c2, c3⟩] at q
  refine bk211_34 t'.wt S'.1 ?_
  generalize kA P tk pt x = a at *
  generalize kB P tk pt x = b at *
  have h0 : ¬ mnS T a b 0 := fun z => z.1 rfl
  have cle : ∀ s, s ≤ 1024 → cct (mnS T a b) s ≤ 252 := fun s hs => Nat.le_trans (cct_mono hs) mn_252
  have h252 := cle (2 ^ P) hp2
  have go : ∀ s, s ≤ 2 ^ P → 1 ≤ s → (∀ i, i < s → mnS T a b i → ¬ nI (cct (mnS T a b) i) = y) → mEs (d - 1) 211 o g211 (39, [some (.ref o), some (.int x), some (.int y), some (.int (nI (cct (mnS T a b) s))), some (.int (nI s))], [], m') Q := by
    refine upto ?_ ?_
    · intro _ hn
      refine bk211_39 t'.wt S'.1 ?_
      rw [S'.2.1.1, shl1 (by omega), nIle (by omega) (by omega)]
      refine ⟨fun _ => ⟨fun cy => ?_, fun cy => ?_⟩, fun c => absurd (Nat.le_refl _) c⟩
      · rw [cif_f cy] at q
        unfold lstT at q
        rw [cif_f] at q
        · exact q
        · rintro ⟨j, hj, rfl⟩
          obtain ⟨k1, k2, k3⟩ := kth_ok hj
          exact hn _ k1 k2 (by rw [k3])
      · rw [cif_t (Classical.not_not.mp cy)] at q; exact q
    · intro s hs ih h1 hn
      have hc := cle s (by omega)
      refine bk211_39 t'.wt S'.1 ?_
      rw [S'.2.1.1, shl1 (by omega), nIle (by omega) (by omega)]
      refine ⟨fun c => by omega, fun _ => ?_⟩
      refine ev_isLeast (P := P) (T := T) (a := a) (b := b) (by omega) t'.wt S'.1 hP10 hI hs h1 ?_
      refine bk211_56 t'.wt S'.1 ?_
      rw [bz_0, nIinc, nIinc]
      refine ⟨fun cm => ?_, fun cm => ⟨fun cy => ?_, fun cy => ?_⟩⟩
      · rintro v rfl
        have := ih (by omega) (fun i hi hm => by
          by_cases e : i = s
          · subst e; exact absurd hm cm
          · exact hn i (by omega) hm)
        rw [cct_f cm] at this; exact this
      · rintro v rfl v2 rfl
        have := ih (by omega) (fun i hi hm => by
          by_cases e : i = s
          · subst e; exact cy
          · exact hn i (by omega) hm)
        rw [cct_t (Classical.not_not.mp cm)] at this; exact this
      · have cm' := Classical.not_not.mp cm
        have cy' := Classical.not_not.mp cy
        subst cy'
        rw [cif_f (neg1_ne (by omega))] at q
        unfold lstT at q
        have hlt : cct (mnS T a b) s < cct (mnS T a b) (2 ^ P) := by
          have := cct_mono (C := mnS T a b) (show s + 1 ≤ 2 ^ P from hs)
          rw [cct_t cm'] at this
          omega
        rw [cif_t ⟨_, hlt, rfl⟩, nI_clamp (by omega), kth_of hs cm'] at q
        exact q
  have := go 1 hp1 (Nat.le_refl _) (fun i hi hm => absurd hm (by rw [show i = 0 by omega]; exact h0))
  rw [cct_f h0] at this
  exact this
theorem ev_trapInM {y : Int32} (hd : 3 ≤ d) (hT : mWT m) (hS : mS m o P T tk pt fi V)
    (hQ : Q (some (.int (trapA P T tk pt y))) (mSetF m o 0 (.int 0))) : mEv d 216 [.ref o, .int y] m Q := by
  obtain ⟨S1, T1⟩ := hS.th hT
  have hP10 := hS.2.2.1.1
  have hp2 := p2_10 hP10
  have hp1 := p2_1 (P := P)
  unfold trapA at hQ
  refine mEv.at (by omega) G216 (Nat.le_of_ble_eq_true rfl) ?_
  refine bk216_0 hT hS.1 ?_
  rintro m1 rfl
  rw [S1.2.2.2.1, bz_0, S1.2.1.1, p2L P hP10]
  refine ⟨fun c => ?_, fun c => ?_⟩
  · rw [cif_f (fun h => c h.1)] at hQ; exact hQ
  refine ev_in (by omega) T1.wt ?_
  rw [bz_cg (inB (by omega) hp2)]
  refine bk216_26 T1.wt S1.1 ?_
  rw [bz_0]
  refine ⟨fun c2 => ?_, fun c2 => ?_⟩
  · rw [cif_f (fun h => c2 h.2)] at hQ; exact hQ
  · have c2' := Classical.not_not.mp c2
    rw [cif_t ⟨Classical.not_not.mp c, c2'⟩] at hQ
    obtain ⟨j, hj, rfl⟩ := c2'
    rw [nI_clamp (by omega)] at hQ
    refine ev_trapOf (by omega) T1.wt S1.1 S1.2.1 S1.2.2.1 (by omega) ?_
    exact bk216_34 T1.wt S1.1 hQ
theorem ev_caughtM (hd : 4 ≤ d) (hT : mWT m) (hS : mS m o P T tk pt fi V)
    (hQ : ∀ m', mTo (m27 o) (mF0 o) m m' → iF m' o 0 = 0 → Q (some (.int (caughtA P T tk pt V.1))) m') : mEv d 218 [.ref o] m Q := by
  obtain ⟨S1, T1⟩ := hS.th hT
  have hP10 := hS.2.2.1.1
  have hp2 := p2_10 hP10
  have hp1 := p2_1 (P := P)
  unfold caughtA at hQ
  refine mEv.at (by omega) G218 (Nat.le_of_ble_eq_true rfl) ?_
  refine bk218_0 hT hS.1 ?_
  rintro m1 rfl
  rw [S1.2.2.2.1, bz_n0]
  refine ⟨fun c => ?_, fun c => ?_⟩
  · refine ev_laySiphons (x := 0) (by omega) T1.wt S1.1 S1.2.1 S1.2.2.1 ?_
    intro m' t' hI
    have T' : mTo (m27 o) (mF0 o) m m' := (mF0_th hT hS).tr (t'.mono (fun k h => h) (fun _ _ h => h.elim))
    have S' := S1.to t' (fun i h1 h2 => by omega) (by omega) id id id id
    have q := hQ m' T' (by rw [t'.nf id]; exact iF_s)
    rw [cif_t c] at q
    have ea : kA P tk pt 0 = tbS P pt := if_pos rfl
    have eb : kB P tk pt 0 = tbS P tk := if_pos rfl
    rw [ea, eb] at hI
    refine bk218_19 t'.wt S'.1 ?_
    have go : ∀ s, s ≤ 2 ^ P → 1 ≤ s → ∀ (so : Int32) (x3 x4 x5 : Option Value), so = bz (∀ i, i < s → mnS T (tbS P pt) (tbS P tk) i → mkd P (gtN T (tbS P tk) (tbS P pt) i) V.1) → mEs (d - 1) 218 o g218 (23, [some (.ref o), some (.int so), some (.int (nI s)), x3, x4, x5], [], m') Q := by
      refine upto ?_ ?_
      · intro _ so x3 x4 x5 hso
        refine bk218_23 t'.wt S'.1 ?_
        rw [S'.2.1.1, shl1 (by omega), nIle (by omega) (by omega), hso, bz_0]
        refine ⟨fun _ => ⟨fun c0 => ?_, fun c0 => ?_⟩, fun c => absurd (Nat.le_refl _) c⟩
        · rw [bz_f (C := allM P T (tbS P tk) (tbS P pt) V.1) c0] at q; exact q
        · rw [bz_t (C := allM P T (tbS P tk) (tbS P pt) V.1) (Classical.not_not.mp c0)] at q; exact q
      · intro s hs ih h1 so x3 x4 x5 hso
        refine bk218_23 t'.wt S'.1 ?_
        rw [S'.2.1.1, shl1 (by omega), nIle (by omega) (by omega)]
        refine ⟨fun c => by omega, fun _ => ?_⟩
        refine ev_isLeast (P := P) (T := T) (a := tbS P pt) (b := tbS P tk) (by omega) t'.wt S'.1 hP10 hI hs h1 ?_
        refine bk218_38 t'.wt S'.1 ?_
        rw [bz_0, nIinc]
        refine ⟨fun cm => ?_, fun cm => ?_⟩
        · rintro v rfl
          refine ih (by omega) so _ _ _ ?_
          rw [hso]
          refine bz_cg ⟨fun z i hi hm => ?_, fun z i hi hm => z i (by omega) hm⟩
          by_cases e : i = s
          · subst e; exact absurd hm cm
          · exact z i (by omega) hm
        · have cm' := Classical.not_not.mp cm
          have hgt := gtN_is (T := T) (tb := tbS P tk) (pb := tbS P pt) (s := s) (by omega)
          have hle := sb_le hgt.1
          refine ev_trapOf (by omega) t'.wt S'.1 S'.2.1 S'.2.2.1 (by omega) ?_
          refine bk218_46 t'.wt S'.1 ?_
          generalize egt : gtN T (tbS P tk) (tbS P pt) s = g at *
          refine upto (e := P) (X := fun p => ∀ hs : Int32, hs = bz (∃ q, q < p ∧ g.testBit q = true ∧ 0 < V.1 q) → mEs (d - 1) 218 o g218 (53, [some (.ref o), some (.int so), some (.int (nI s)), some (.int (nI g)), some (.int hs), some (.int (nI p))], [], m') Q) ?_ ?_ 0 (Nat.zero_le _) 0 (bz_f (fun ⟨q, h, _⟩ => absurd h (Nat.not_lt_zero _))).symm
          · intro hh ehh
            refine bk218_53 t'.wt S'.1 ?_
            rw [S'.2.1.1, nIle (by omega) (by omega), nIinc]
            refine ⟨fun _ => ⟨fun c0 => ?_, fun c0 => ⟨fun c5 => ?_, fun c5 => ?_⟩⟩, fun c => absurd (Nat.le_refl _) c⟩
            · rintro v rfl
              rw [hso, bz_0] at c0
              exact ih (by omega) 0 _ _ _ (bz_f (fun z => c0 (fun i hi hm => z i (by omega) hm))).symm
            · rintro v rfl
              rw [ehh, bz_0] at c5
              refine ih (by omega) 0 _ _ _ (bz_f (fun z => c5 ?_)).symm
              have := z s (Nat.lt_succ_self _) cm'
              rw [egt] at this
              exact this
            · rintro v rfl
              rw [hso, bz_n0] at c0
              rw [ehh, bz_n0] at c5
              refine ih (by omega) 1 _ _ _ (bz_t (fun i hi hm => ?_)).symm
              by_cases e : i = s
              · subst e; rw [egt]; exact c5
              · exact c0 i (by omega) hm
          · intro p hp ih2 hh ehh
            have a1 := S'.2.2.2.2.2.1 p
            refine bk218_53 t'.wt S'.1 ?_
            rw [S'.2.1.1, nIle (by omega) (by omega), bit_n (by omega) (by omega), bz_1, nI_clamp (by omega), S'.2.2.2.2.1 p (by omega), nIle0 (by omega), nIinc, nIinc]
            have no : ¬ (g.testBit p = true ∧ 0 < V.1 p) → hh = 0 → (0 : Int32) = bz (∃ q, q < p + 1 ∧ g.testBit q = true ∧ 0 < V.1 q) := by
              intro h e
              rw [ehh, bz_0] at e
              refine (bz_f (fun ⟨q, h1, h2⟩ => ?_)).symm
              by_cases eq : q = p
              · subst eq; exact h h2
              · exact e ⟨q, by omega, h2⟩
            refine ⟨fun c => by omega, fun _ => ⟨fun c5 => ?_, fun c5 => ⟨fun c6 => ?_, fun c6 => ⟨(nIin_iff (by omega)).mpr (by omega), fun c7 => ?_, fun c7 => ?_⟩⟩⟩⟩
            · rintro v rfl
              rw [ehh, bz_n0] at c5
              obtain ⟨q, h1, h2⟩ := c5
              exact ih2 1 (bz_t ⟨q, by omega, h2⟩).symm
            · rintro v rfl
              exact ih2 0 (no (fun z => c6 z.1) (Classical.not_not.mp c5))
            · rintro v rfl
              exact ih2 0 (no (fun z => by omega) (Classical.not_not.mp c5))
            · rintro v rfl
              exact ih2 1 (bz_t ⟨p, Nat.lt_succ_self _, Classical.not_not.mp c6, by omega⟩).symm
    exact go 1 hp1 (Nat.le_refl _) 1 _ _ _ (bz_t (fun i hi hm => absurd (show i = 0 by omega) hm.1)).symm
  · have q := hQ _ (mF0_th hT hS) iF_s
    rw [cif_f c] at q; exact q
end MSET2
