/-! The model's cover(), node(), bound(), covers(). -/
def pIx (n : Nat) (y : Int32) : Prop := ∃ j, j < n ∧ y = nI j
def askN (P : Nat) (y z : Int32) : Prop := 0 < P ∧ ((y = -1 ∧ z = 0) ∨ (¬ y = -1 ∧ ¬ y < 0 ∧ (pIx P z ∨ z = 10 ∨ z = 11 ∨ z = 12)))
noncomputable def nodeA (P T : Nat) (tk : Nat → Nat → Nat) (S : cvS) (y z : Int32) : Int32 := cif (askN P y z) (cif (S.1 ≤ 200) (cif (y = -1) (nI S.1) (cif (pIx S.1 y) (nodeT P T tk S y.toNatClampNeg z) (-1))) (-2)) (-1)
noncomputable def boundA (P : Nat) (S : cvS) (y : Int32) : Int32 := cif (pIx P y) (cif (S.1 ≤ 200) (shV (mxN (fun k => S.2.1 k y.toNatClampNeg) S.1)) (-2)) (-1)
/-- the least below N with C, or none -/
noncomputable def lstC (C : Nat → Prop) : Nat → Int32
  | 0 => -3
  | k + 1 => cif (∃ j, j < k ∧ C j) (lstC C k) (cif (C k) (nI k) (-3))
theorem lstC_at {C : Nat → Prop} {k : Nat} (h : C k) (h2 : ∀ j, j < k → ¬ C j) : ∀ N, k < N → lstC C N = nI k := by
  intro N
  induction N with
  | zero => intro h; omega
  | succ N ih =>
    intro hN
    show cif _ _ _ = _
    by_cases e : k < N
    · rw [cif_t ⟨k, e, h⟩]; exact ih e
    · obtain rfl : k = N := by omega
      rw [cif_f (fun ⟨j, a, b⟩ => h2 j a b), cif_t h]
theorem lstC_no {C : Nat → Prop} : ∀ N, (∀ j, j < N → ¬ C j) → lstC C N = -3 := by
  intro N
  cases N with
  | zero => intro _; rfl
  | succ N =>
    intro h
    show cif _ _ _ = _
    rw [cif_f (fun ⟨j, a, b⟩ => h j (by omega) b), cif_f (h N (Nat.lt_succ_self _))]
noncomputable def coversA (P : Nat) (S : cvS) (gl : Nat → Nat) (y : Int32) : Int32 := cif (0 < P ∧ (y = 0 ∨ y = 1)) (cif (S.1 ≤ 200) (cif (y = 0) (lstC (fun k => leP P gl (S.2.1 k)) S.1) (nI (cct (fun k => leP P gl (S.2.1 k)) S.1))) (-2)) (-1)
/-- how many from k up to N have C -/
noncomputable def cctD (C : Nat → Prop) (k : Nat) : Nat → Nat
  | 0 => 0
  | j + 1 => cctD C k j + cif (C (k + j)) 1 0
theorem cct_split (C : Nat → Prop) (k : Nat) : ∀ j, cct C (k + j) = cct C k + cctD C k j := by
  intro j
  induction j with
  | zero => rfl
  | succ j ih =>
    show cct C (k + j) + cif _ _ _ = cct C k + (cctD C k j + cif _ _ _)
    rw [ih, Nat.add_assoc]
    rfl
def mcF (o k f : Nat) : Prop := k = o ∧ (f = 21 ∨ f = 26)
def mcA (o k : Nat) : Prop := k = 64 * o + 11 ∨ k = 64 * o + 12 ∨ k = 64 * o + 13 ∨ k = 64 * o + 14
section MCV2
variable {d o n P T r lr : Nat} {tk pt : Nat → Nat → Nat} {fi mk : Nat → Nat} {V : aV} {S : cvS} {m : mMem} {Q : Option Value → mMem → Prop}
theorem ev_cover (hd : 5 ≤ d) (hT : mWT m) (hS : mS m o P T tk pt fi V) (h21 : iF m o 21 = 0 ∨ mCov m o P T tk (cvZ P T tk pt V.1))
    (hQ : ∀ m', mTo (mcA o) (mcF o) m m' → ¬ iF m' o 21 = 0 → mCov m' o P T tk (cvZ P T tk pt V.1) → Q none m') : mEv d 180 [.ref o] m Q := by
  obtain ⟨hO, hN, hk, a4, a5, a6, a7, a8, a9, b1, b2, b3, b4⟩ := id hS
  have hP10 := hk.1
  have hk2 := hk.2.1
  refine mEv.at (by omega) G180 (Nat.le_of_ble_eq_true rfl) ?_
  refine bk180_0 hT hO ⟨fun c => ?_, fun c => ?_⟩
  · rintro m1 rfl m2 rfl
    have T2 : mTo (mcA o) (mcF o) m (mSetF (mSetF m o 21 (.int 1)) o 26 (.int 0)) := ((mTo.rf hT).sF hO ⟨rfl, Or.inl rfl⟩ (by decide)).sF hO ⟨rfl, Or.inr rfl⟩ (by decide)
    have x21 : iF (mSetF (mSetF m o 21 (.int 1)) o 26 (.int 0)) o 21 = 1 := by rw [iF_nf (by decide), iF_s]
    have x26 : iF (mSetF (mSetF m o 21 (.int 1)) o 26 (.int 0)) o 26 = 0 := iF_s
    generalize mSetF (mSetF m o 21 (.int 1)) o 26 (.int 0) = m2 at *
    refine ev_layFirst (P := P) (T := T) (tk := tk) (pt := pt) (mk := V.1) (by omega) T2.wt (T2.ob hO) x26 (by rw [T2.i (by unfold mcA; omega)]; exact a5) hP10 ?_
    intro m3 t3 R3
    have T3 := T2.tr (t3.mono (A' := mcA o) (F' := mcF o) (fun k h => by unfold mvA at h; unfold mcA; omega) (fun k f h => ⟨h.1, Or.inr h.2⟩))
    have y21 : iF m3 o 21 = 1 := by rw [t3.nf (by unfold mvF; omega)]; exact x21
    refine bk180_24 T3.wt (T3.ob hO) ?_
    have hB := cvB_all (P := P) (T := T) (tk := tk) (pt := pt) (mk := V.1) hk a6
    have fin : ∀ i m', i ≤ 201 → mTo (mcA o) (mcF o) m m' → iF m' o 21 = 1 → ¬ (i < (cvB P T tk pt V.1 i).1 ∧ (cvB P T tk pt V.1 i).1 ≤ 200) → mvR m' o P (cvB P T tk pt V.1 i) → (∀ k, k < i → k < (cvB P T tk pt V.1 i).1 → (cvB P T tk pt V.1 i).1 ≤ 200 → m'.2.2.1 (64 * o + 14) k = nI (endS P T tk (cvB P T tk pt V.1 i).2.1 k)) → Q none m' := by
      intro i m' hi T' z21 hs hR hE
      refine hQ m' T' (by rw [z21]; decide) ?_
      rw [cvZ_of hi hs]
      exact ⟨(hB i).1, hR, fun h1 k hk' => hE k (by omega) hk' h1⟩
    refine upto (e := 201) (X := fun i => ∀ (o2 o3 : Option Value) (m' : mMem), mTo (mcA o) (mcF o) m m' → iF m' o 21 = 1 → mvR m' o P (cvB P T tk pt V.1 i) → (∀ k, k < i → k < (cvB P T tk pt V.1 i).1 → (cvB P T tk pt V.1 i).1 ≤ 200 → m'.2.2.1 (64 * o + 14) k = nI (endS P T tk (cvB P T tk pt V.1 i).2.1 k)) → mEs (d - 1) 180 o g180 (26, [some (.ref o), some (.int (nI i)), o2, o3], [], m') Q) ?_ ?_ 0 (Nat.zero_le _) _ _ m3 T3 y21 R3 (fun k hk' => absurd hk' (Nat.not_lt_zero _))
    · intro o2 o3 m' T' z21 hR hE
      have h201 := (hB 201).1.2.1
      have q := fin 201 m' (Nat.le_refl _) T' z21 (by omega) hR hE
      refine bk180_26 T'.wt (T'.ob hO) ?_
      rw [hR.1, nIle (by omega) (by omega)]
      exact ⟨fun _ => q, fun c => absurd h201 c⟩
    · intro i hi ih o2 o3 m' T' z21 hR hE
      have h201 := (hB i).1.2.1
      have gN := hN.to T' (by unfold mcA; omega) (by unfold mcA; omega) (by unfold mcF; omega) (by unfold mcF; omega)
      refine bk180_26 T'.wt (T'.ob hO) ?_
      rw [hR.1, nIle (by omega) (by omega), l200, nI_ltI (by omega) (by omega)]
      refine ⟨fun c => fin i m' (by omega) T' z21 (by omega) hR hE, fun cN => ⟨fun c => fin i m' (by omega) T' z21 (by omega) hR hE, fun c200 => ?_⟩⟩
      refine ev_canCov (S := cvB P T tk pt V.1 i) (by omega) T'.wt (T'.ob hO) gN hk hR (hB i).1 (by omega) ?_
      refine bk180_49 T'.wt (T'.ob hO) ?_
      refine ev_oldM (S := cvB P T tk pt V.1 i) (by omega) T'.wt (T'.ob hO) gN.1 hP10 hR (hB i).1 (by omega) ?_
      refine bk180_60 T'.wt (T'.ob hO) (ly0 := 201) (T'.wt.arr (T'.ob hO) 13 rfl (by decide)) ?_
      have hbs := bs_small (enS P tk ((cvB P T tk pt V.1 i).2.1 i)) hk2
      have hE' : ∀ k, k < i → m'.2.2.1 (64 * o + 14) k = nI (endS P T tk (cvB P T tk pt V.1 i).2.1 k) := fun k hk' => hE k hk' (by omega) (by omega)
      rw [bz_0]
      -- an end: no more of it
      have isEnd : ∀ e : Nat, e ≠ 0 → e ≤ 2 → endS P T tk (cvB P T tk pt V.1 i).2.1 i = e → cvB P T tk pt V.1 (i + 1) = cvB P T tk pt V.1 i → mEs (d - 1) 180 o g180 (79, [some (.ref o), some (.int (nI i)), some (.int (nI (bs (enS P tk ((cvB P T tk pt V.1 i).2.1 i)) T))), some (.int 0)], [], mSetI m' (64 * o + 14) (upd (m'.2.2.1 (64 * o + 14)) i (nI e))) Q := by
        intro e he0 he2 he eB
        have t1 : mTo (fun k => k = 64 * o + 14) (fun _ _ => False) m' (mSetI m' (64 * o + 14) (upd (m'.2.2.1 (64 * o + 14)) i (nI e))) := (mTo.rf T'.wt).sI rfl
        have T1 := T'.tr (t1.mono (A' := mcA o) (F' := mcF o) (fun k h => by unfold mcA; omega) (fun _ _ h => h.elim))
        have q : ∀ (o2 o3 : Option Value), mEs (d - 1) 180 o g180 (26, [some (.ref o), some (.int (nI (i + 1))), o2, o3], [], mSetI m' (64 * o + 14) (upd (m'.2.2.1 (64 * o + 14)) i (nI e))) Q := by
          intro o2 o3
          refine ih _ _ _ T1 (by rw [t1.nf id]; exact z21) (by rw [eB]; exact hR.to t1 (by omega) (by omega) (by omega) id) ?_
          rw [eB]
          intro k h1 h2 h3
          rw [rdI_same]
          by_cases ek : k = i
          · subst ek; rw [up_s, he]
          · rw [up_n ek]; exact hE' k (by omega)
        refine bk180_79 T1.wt (T1.ob hO) ?_
        simp (disch := omega) only [forall_eq, l2, l3, l4, l9, l10, l11, l12, l20, l30, l80, l90, l99, l100, l110, l200, l240, l252, l300, l1024, l1M, nI_mul, nIle, nI_ltI, nIeq, nIx10, n10x, nI_add, nI_clamp, nIin_iff, nIinc, nIlt0, nIeq0, nIle0, nIle1, n1lt, n0lt, nIeq1, bz_0, Classical.not_not, rdI_same, rdI_ne, rI_F, rI_J, rJ_F, rJ_I, rdJ_same, rdJ_ne, iF_s, iF_nf, iF_nk, iF_I, iF_J, up_s, up_n]
        refine ⟨fun _ => q _ _, fun _ => ⟨by omega, fun _ => q _ _, fun c => absurd c he0⟩⟩
      refine ⟨fun co => ⟨fun c3 => ⟨(nIin_iff (by omega)).mpr (by omega), ?_⟩, fun c3 => ⟨(nIin_iff (by omega)).mpr (by omega), ?_⟩⟩, fun co => ⟨(nIin_iff (by omega)).mpr (by omega), ?_⟩⟩
      · rintro m5 rfl
        rw [nI_clamp (by omega)]
        have t1 : mTo (fun k => k = 64 * o + 14) (fun _ _ => False) m' (mSetI m' (64 * o + 14) (upd (m'.2.2.1 (64 * o + 14)) i 0)) := (mTo.rf T'.wt).sI rfl
        have T1 := T'.tr (t1.mono (A' := mcA o) (F' := mcF o) (fun k h => by unfold mcA; omega) (fun _ _ h => h.elim))
        have eB : cvB P T tk pt V.1 (i + 1) = cvF P tk pt (cvB P T tk pt V.1 i) i T := by
          show cif _ _ _ = _
          rw [cif_t ⟨by omega, by omega, co⟩]
        have eI : endS P T tk (cvB P T tk pt V.1 i).2.1 i = 0 := by
          unfold endS
          rw [cif_f co, cif_t]
          refine Classical.byContradiction fun z => c3 ?_
          rw [nIeq0 (by omega), bs_zero]
          exact fun t ht h => z ⟨t, ht, h⟩
        -- behind all transitions
        have nxt : ∀ (o2 o3 : Option Value) (m4 : mMem), mTo (mcA o) (mcF o) m m4 → iF m4 o 21 = 1 → mvR m4 o P (cvF P tk pt (cvB P T tk pt V.1 i) i T) → (∀ k, k < i → m4.2.2.1 (64 * o + 14) k = nI (endS P T tk (cvB P T tk pt V.1 i).2.1 k)) → m4.2.2.1 (64 * o + 14) i = 0 → mEs (d - 1) 180 o g180 (26, [some (.ref o), some (.int (nI (i + 1))), o2, o3], [], m4) Q := by
          intro o2 o3 m4 T4 w21 wR wE wI
          refine ih _ _ m4 T4 w21 (by rw [eB]; exact wR) ?_
          intro k h1 h2 h3
          rw [endS_cg (h' := (cvB P T tk pt V.1 i).2.1) (fun j hj => (hB i).2.2 j (by omega))]
          by_cases ek : k = i
          · subst ek; rw [wI, eI]; rfl
          · exact wE k (by omega)
        refine upto (e := T) (X := fun t => ∀ m4, mTo (mcA o) (mcF o) m m4 → iF m4 o 21 = 1 → mvR m4 o P (cvF P tk pt (cvB P T tk pt V.1 i) i t) → (∀ k, k < i → m4.2.2.1 (64 * o + 14) k = nI (endS P T tk (cvB P T tk pt V.1 i).2.1 k)) → m4.2.2.1 (64 * o + 14) i = 0 → mEs (d - 1) 180 o g180 (79, [some (.ref o), some (.int (nI i)), some (.int (nI (bs (enS P tk ((cvB P T tk pt V.1 i).2.1 i)) T))), some (.int (nI t))], [], m4) Q) ?_ ?_ 0 (Nat.zero_le _) _ T1 (by rw [t1.nf id]; exact z21) (hR.to t1 (by omega) (by omega) (by omega) id) (fun k hk' => by rw [rdI_same, up_n (by omega)]; exact hE' k hk') (by rw [rdI_same, up_s])
        · intro m4 T4 w21 wR wE wI
          have z7 : iF m4 o 7 = nI T := by rw [T4.nf (by unfold mcF; omega)]; exact hN.2.1
          refine bk180_79 T4.wt (T4.ob hO) ?_
          rw [z7]
          simp (disch := omega) only [forall_eq, l2, l3, l4, l9, l10, l11, l12, l20, l30, l80, l90, l99, l100, l110, l200, l240, l252, l300, l1024, l1M, nI_mul, nIle, nI_ltI, nIeq, nIx10, n10x, nI_add, nI_clamp, nIin_iff, nIinc, nIlt0, nIeq0, nIle0, nIle1, n1lt, n0lt, nIeq1, bz_0, Classical.not_not]
          exact ⟨fun _ => nxt _ _ m4 T4 w21 wR wE wI, fun c => absurd (Nat.le_refl _) c⟩
        · intro t ht ih2 m4 T4 w21 wR wE wI
          have z7 : iF m4 o 7 = nI T := by rw [T4.nf (by unfold mcF; omega)]; exact hN.2.1
          have gN4 := hN.to T4 (by unfold mcA; omega) (by unfold mcA; omega) (by unfold mcF; omega) (by unfold mcF; omega)
          obtain ⟨w1, w2, w3⟩ := cvF_all hk (hB i).1 (show i < (cvB P T tk pt V.1 i).1 by omega) t (by omega)
          have w3i := w3 i (by omega)
          have w201 := w1.2.1
          refine bk180_79 T4.wt (T4.ob hO) ?_
          rw [z7, wR.1, bit_n (by omega) (by omega), nI_clamp (by omega), wI, bz_1]
          simp (disch := omega) only [forall_eq, l2, l3, l4, l9, l10, l11, l12, l20, l30, l80, l90, l99, l100, l110, l200, l240, l252, l300, l1024, l1M, nI_mul, nIle, nI_ltI, nIeq, nIx10, n10x, nI_add, nI_clamp, nIin_iff, nIinc, nIlt0, nIeq0, nIle0, nIle1, n1lt, n0lt, nIeq1, bz_0, Classical.not_not]
          refine ⟨fun c => by omega, fun _ => ⟨by omega, fun c => absurd trivial c, fun _ => ⟨fun c => ?_, fun c => ⟨fun cb => ?_, fun cb => ?_⟩⟩⟩⟩
          · have e := cvF_201 (P := P) (tk := tk) (pt := pt) (S := cvB P T tk pt V.1 i) (i := i) (t := t) c (T - t)
            rw [show t + (T - t) = T by omega] at e
            exact nxt _ _ m4 T4 w21 (by rw [e]; exact wR) wE wI
          · have ne : ¬ enS P tk ((cvB P T tk pt V.1 i).2.1 i) t := fun z => cb ((bs_tb _ _ _).mpr ⟨ht, z⟩)
            have e : cvF P tk pt (cvB P T tk pt V.1 i) i (t + 1) = cvF P tk pt (cvB P T tk pt V.1 i) i t := by
              show cvSt P tk pt (cvF P tk pt (cvB P T tk pt V.1 i) i t) i t = _
              unfold cvSt
              rw [cif_f]
              rw [w3i]; exact fun z => ne z.2
            refine bk180_121 T4.wt (T4.ob hO) ?_
            simp (disch := omega) only [forall_eq, l2, l3, l4, l9, l10, l11, l12, l20, l30, l80, l90, l99, l100, l110, l200, l240, l252, l300, l1024, l1M, nI_mul, nIle, nI_ltI, nIeq, nIx10, n10x, nI_add, nI_clamp, nIin_iff, nIinc, nIlt0, nIeq0, nIle0, nIle1, n1lt, n0lt, nIeq1, bz_0, Classical.not_not]
            exact ih2 m4 T4 w21 (by rw [e]; exact wR) wE wI
          · have ye : enS P tk ((cvB P T tk pt V.1 i).2.1 i) t := ((bs_tb _ _ _).mp cb).2
            have e : cvF P tk pt (cvB P T tk pt V.1 i) i (t + 1) = cvAdd P tk pt (cvF P tk pt (cvB P T tk pt V.1 i) i t) i t := by
              show cvSt P tk pt (cvF P tk pt (cvB P T tk pt V.1 i) i t) i t = _
              unfold cvSt
              rw [cif_t]
              rw [w3i]; exact ⟨by omega, ye⟩
            refine ev_layNode (S := cvF P tk pt (cvB P T tk pt V.1 i) i t) (by omega) T4.wt (T4.ob hO) gN4 hk wR w1 (by omega) (by omega) (by omega) (by rw [w3i]; exact ye) ?_
            intro m5 t5 R5
            have T5 := T4.tr (t5.mono (A' := mcA o) (F' := mcF o) (fun k h => by unfold mvA at h; unfold mcA; omega) (fun k f h => ⟨h.1, Or.inr h.2⟩))
            refine bk180_121 T5.wt (T5.ob hO) ?_
            simp (disch := omega) only [forall_eq, l2, l3, l4, l9, l10, l11, l12, l20, l30, l80, l90, l99, l100, l110, l200, l240, l252, l300, l1024, l1M, nI_mul, nIle, nI_ltI, nIeq, nIx10, n10x, nI_add, nI_clamp, nIin_iff, nIinc, nIlt0, nIeq0, nIle0, nIle1, n1lt, n0lt, nIeq1, bz_0, Classical.not_not]
            refine ih2 m5 T5 (by rw [t5.nf (by unfold mvF; omega)]; exact w21) (by rw [e]; exact R5) ?_ ?_
            · rw [t5.i (by unfold mvA; omega)]; exact wE
            · rw [t5.i (by unfold mvA; omega)]; exact wI
      · rintro m5 rfl
        rw [nI_clamp (by omega)]
        rw [Classical.not_not, nIeq0 (by omega), bs_zero] at c3
        refine isEnd 1 (by omega) (by omega) ?_ ?_
        · unfold endS
          rw [cif_f co, cif_f (fun ⟨t, ht, h⟩ => c3 t ht h)]
        · show cif _ _ _ = _
          rw [cif_t ⟨by omega, by omega, co⟩, cvF_no T c3]
      · rintro m5 rfl
        rw [nI_clamp (by omega)]
        rw [Classical.not_not] at co
        refine isEnd 2 (by omega) (by omega) ?_ ?_
        · unfold endS
          rw [cif_t co]
        · show cif _ _ _ = _
          rw [cif_f (fun z => z.2.2 co)]
  · rcases h21 with h | h
    · exact absurd h c
    · exact hQ m (mTo.rf hT) c h
theorem ev_shownM {v : Nat} (hd : 1 ≤ d) (hT : mWT m) (hv : v ≤ 1000000) (hQ : Q (some (.int (shV v))) m) : mEv d 185 [.int (nI v)] m Q := by
  refine mEv.at (by omega) G185 (Nat.le_of_ble_eq_true rfl) ?_
  refine bk185_0 hT ?_
  simp (disch := omega) only [forall_eq, l2, l3, l4, l9, l10, l11, l12, l20, l30, l80, l90, l99, l100, l110, l200, l240, l252, l300, l1024, l1M, nI_mul, nIle, nI_ltI, nIeq, nIx10, n10x, nI_add, nI_clamp, nIin_iff, nIinc, nIlt0, nIeq0, nIle0, nIle1, n1lt, n0lt, nIeq1, bz_0, Classical.not_not]
  unfold shV at hQ
  refine ⟨fun c => ?_, fun c => ?_⟩
  · rw [if_neg c] at hQ; exact hQ
  · rw [if_pos c] at hQ; exact hQ
end MCV2
