/-! The model: one step of flows. -/
def moA (o k : Nat) : Prop := k = 64 * o + 24 ∨ k = 64 * o + 25 ∨ k = 64 * o + 26
def moF (o k f : Nat) : Prop := k = o ∧ (f = 39 ∨ f = 41 ∨ f = 42)
/-- the rows behind a step, as they lie in the model -/
def mfM (m : mMem) (o W : Nat) (D : Nat → Nat → Int) (z : Option fwS) : Prop := match z with
  | none => iF m o 42 = 1
  | some S => iF m o 42 = 0 ∧ iF m o 39 = nI S.1 ∧ mfR m (64 * o + 24) W D S
section MFW2
variable {d o n P T W E lr r e : Nat} {D : Nat → Nat → Int} {tk pt : Nat → Nat → Nat} {fi row : Nat → Nat} {S A : fwS} {m : mMem} {Q : Option Value → mMem → Prop}
theorem ev_goesAway (hd : 2 ≤ d) (hT : mWT m) (hO : m.1 o = some (.inr 8) ∧ o ≠ 0) (hW : W ≤ 10) (h41 : iF m o 41 = nI A.1) (hM : A.1 ≤ 300) (hR : mfR m (64 * o + 25) W D A) (hrow : ∀ j, j < A.1 → rowOk W D (A.2 j)) (hr : r < A.1) (hQ : Q (some (.int (bz (beat W A r)))) m) : mEv d 208 [.ref o, .int (nI r)] m Q := by
  have ul : ∀ q, uB W (A.2 q) < 1024 := fun q => uB_lt hW
  have hA25 : m.1 (64 * o + 25) = some (.inl (.long, 6020)) ∧ 64 * o + 25 ≠ 0 := hT.arr hO 24 rfl (by decide)
  have sup : ∀ q, q < A.1 → ∀ (Q : Option Value → mMem → Prop), Q (some (.int (nI (uB W (A.2 q))))) m → mEv (d - 1) 209 [.ref o, .ref (64 * o + 25), .int (nI q)] m Q := by
    intro q hq Q hQ
    exact ev_support (row := A.2 q) (by omega) hT hO hA25 (by omega) hW (hR q hq).1 (hrow q hq).1 (fun k => by have := (hrow q hq).2.1 k; omega) hQ
  refine mEv.at (by omega) G208 (Nat.le_of_ble_eq_true rfl) ?_
  refine bk208_0 hT hO ?_
  refine sup r hr _ ?_
  refine bk208_9 hT hO ?_
  refine upto (e := A.1) (X := fun q => ∀ (so : Int32) (x5 : Option Value), so = bz (∃ j, j < q ∧ sbN (uB W (A.2 j)) (uB W (A.2 r)) ∧ (uB W (A.2 j) ≠ uB W (A.2 r) ∨ j < r)) → mEs (d - 1) 208 o g208 (15, [some (.ref o), some (.int (nI r)), some (.int (nI (uB W (A.2 r)))), some (.int so), some (.int (nI q)), x5], [], m) Q) ?_ ?_ 0 (Nat.zero_le _) 0 _ (bz_f (fun ⟨j, h, _⟩ => absurd h (Nat.not_lt_zero _))).symm
  · intro so x5 hso
    refine bk208_15 hT hO ?_
    rw [h41, nIle (by omega) (by omega), hso]
    exact ⟨fun _ => ⟨bz_01 _, hQ⟩, fun c => absurd (Nat.le_refl _) c⟩
  · intro q hq ih so x5 hso
    refine bk208_15 hT hO ?_
    rw [h41, nIle (by omega) (by omega)]
    refine ⟨fun c => by omega, fun _ => ⟨fun c0 => ?_, fun c0 => ?_⟩⟩
    · rw [hso]
      refine ⟨bz_01 _, ?_⟩
      rw [hso, bz_n0] at c0
      obtain ⟨j, h1, h2⟩ := c0
      rw [bz_t ⟨j, h1, h2⟩]
      rw [bz_t (C := beat W A r) ⟨j, by omega, h2⟩] at hQ
      exact hQ
    · have c0' := Classical.not_not.mp c0
      rw [hso, bz_0] at c0'
      refine sup q hq _ ?_
      have u1 := ul q
      have u2 := ul r
      have u3 := dfB_lt (b := uB W (A.2 r)) u1
      refine bk208_38 hT hO ?_
      rw [nIeq (by omega) (by omega), not_n u1, nIeq0 (by omega), dfB_0 u1, nIeq (by omega) (by omega), nIle (by omega) (by omega), nIinc]
      have no : ¬ (sbN (uB W (A.2 q)) (uB W (A.2 r)) ∧ (uB W (A.2 q) ≠ uB W (A.2 r) ∨ q < r)) → ∀ x5 : Option Value, mEs (d - 1) 208 o g208 (15, [some (.ref o), some (.int (nI r)), some (.int (nI (uB W (A.2 r)))), some (.int 0), some (.int (nI (q + 1))), x5], [], m) Q := by
        intro h x5
        refine ih 0 _ (bz_f (fun ⟨j, h1, h2⟩ => ?_)).symm
        by_cases e : j = q
        · subst e; exact h h2
        · exact c0' ⟨j, by omega, h2⟩
      have yes : (sbN (uB W (A.2 q)) (uB W (A.2 r)) ∧ (uB W (A.2 q) ≠ uB W (A.2 r) ∨ q < r)) → ∀ x5 : Option Value, mEs (d - 1) 208 o g208 (15, [some (.ref o), some (.int (nI r)), some (.int (nI (uB W (A.2 r)))), some (.int 1), some (.int (nI (q + 1))), x5], [], m) Q := fun h x5 => ih 1 _ (bz_t ⟨q, Nat.lt_succ_self _, h⟩).symm
      refine ⟨fun c1 => ?_, fun c1 => ⟨fun c2 => ?_, fun c2 => ⟨fun c3 => ?_, fun c3 => ⟨fun c4 => ?_, fun c4 => ?_⟩⟩⟩⟩
      · rintro v rfl
        exact no (fun z => z.2.elim (fun h => h (by rw [c1])) (by omega)) _
      · rintro v rfl
        exact no (fun z => c2 z.1) _
      · rintro v rfl
        exact yes ⟨Classical.not_not.mp c2, Or.inl c3⟩ _
      · rintro v rfl
        exact no (fun z => z.2.elim c3 (by omega)) _
      · rintro v rfl
        exact yes ⟨Classical.not_not.mp c2, Or.inr (by omega)⟩ _
theorem ev_oneStep (hd : 3 ≤ d) (hT : mWT m) (hO : m.1 o = some (.inr 8) ∧ o ≠ 0) (hW : W ≤ 10) (hE : E ≤ 10) (hE2 : ∀ k e, E ≤ e → D k e = 0) (hS : fOk W D S) (hM : mfM m o W D (some S)) (he : e < E)
    (hQ : ∀ m', mTo (moA o) (moF o) m m' → mfM m' o W D (cif (farS W E D S e) none (some (fSt W D S e))) → Q none m') : mEv d 203 [.ref o, .int (nI e)] m Q := by
  obtain ⟨h42, h39, hR⟩ := hM
  obtain ⟨h300, hrow, hinj⟩ := id hS
  have hcl : ∀ r, r < S.1 → (chI W D (S.2 r) e).natAbs ≤ 1000000000 := fun r hr => (hrow r hr).2.2.1 e
  have cmp0 : ∀ z : Int, z.natAbs ≤ 1000000000 → (iL z = 0 ↔ z = 0) ∧ (iL z ≤ 0 ↔ z ≤ 0) ∧ (0 ≤ iL z ↔ 0 ≤ z) := by
    intro z hz
    rw [fa_eq64, fa_le64, fa_le64, iL_t (by omega) (by omega)]
    exact ⟨Iff.rfl, Iff.rfl, Iff.rfl⟩
  refine mEv.at (by omega) G203 (Nat.le_of_ble_eq_true rfl) ?_
  refine bk203_0 hT hO ?_
  intro m1 em1
  obtain ⟨t1, e41⟩ := sF1 em1 hT hO (by decide)
  have T1 : mTo (moA o) (moF o) m m1 := t1.mono (fun _ h => h.elim) (fun k f h => ⟨h.1, by omega⟩)
  -- what stays over the first two loops
  have keep : ∀ (m' : mMem), mTo (fun k => k = 64 * o + 25 ∨ k = 64 * o + 26) (fun k f => k = o ∧ (f = 41 ∨ f = 42)) m1 m' → iF m' o 39 = nI S.1 ∧ mfR m' (64 * o + 24) W D S ∧ mTo (moA o) (moF o) m m' ∧ (m'.1 o = some (.inr 8) ∧ o ≠ 0) := by
    intro m' t'
    refine ⟨by rw [t'.nf (by omega), t1.nf (by omega)]; exact h39, (hR.to t1 id).to t' (by omega), T1.tr (t'.mono (fun k h => Or.inr h) (fun k f h => ⟨h.1, Or.inr h.2⟩)), t'.ob (t1.ob hO)⟩
  have rowB : ∀ (B : fwS), (∀ j, j < B.1 → rowOk W D (B.2 j)) → True := fun _ _ => trivial
  -- the end when it goes too far
  have far : ∀ (x1 : Int32) (x3 : Option Value) (m' : mMem), mTo (fun k => k = 64 * o + 25 ∨ k = 64 * o + 26) (fun k f => k = o ∧ (f = 41 ∨ f = 42)) m1 m' → iF m' o 42 = 1 → farS W E D S e → ∀ r, r ≤ S.1 → ∀ (x3 : Option Value), mEs (d - 1) 203 o g203 (58, [some (.ref o), some (.int (nI e)), some (.int (nI r)), x3], [], m') Q := by
    intro x1 x3 m' t' z42 hf
    obtain ⟨k1, k2, k3, k4⟩ := keep m' t'
    have nz : ¬ iF m' o 42 = 0 := by rw [z42]; decide
    refine upto ?_ ?_
    · intro x3
      refine bk203_58 k3.wt k4 ?_
      rw [k1, nIle (by omega) (by omega)]
      refine ⟨fun _ m2 em2 => ?_, fun c => absurd (Nat.le_refl _) c⟩
      obtain ⟨t2, e39⟩ := sF1 em2 k3.wt k4 (by decide)
      have T2 : mTo (moA o) (moF o) m m2 := k3.tr (t2.mono (fun _ h => h.elim) (fun k f h => ⟨h.1, by omega⟩))
      have y42 : iF m2 o 42 = 1 := by rw [t2.nf (by omega)]; exact z42
      have q : Q none m2 := by
        refine hQ m2 T2 ?_
        rw [cif_t hf]; exact y42
      refine bk203_147 T2.wt (t2.ob k4) ⟨fun _ => q, fun _ => ⟨fun _ => q, fun c => ?_⟩⟩
      rw [y42] at c; exact absurd (by decide) c
    · intro r hr ih x3
      refine bk203_58 k3.wt k4 ?_
      rw [k1, nIle (by omega) (by omega)]
      refine ⟨fun c => by omega, fun _ => ?_⟩
      refine bk203_68 k3.wt k4 ⟨fun _ => ?_, fun _ => ⟨fun _ => ?_, fun c => absurd nz c⟩⟩
      · rintro v rfl; rw [nIinc]; exact ih _
      · rintro v rfl; rw [nIinc]; exact ih _
  -- the rows that stand
  have leU : ∀ r, (fU W D S e r).1 ≤ r := fun r => by rw [fU_n]; exact cct_le _
  refine upto (e := S.1) (X := fun r => ∀ (x3 : Option Value) (m' : mMem), mTo (fun k => k = 64 * o + 25 ∨ k = 64 * o + 26) (fun k f => k = o ∧ (f = 41 ∨ f = 42)) m1 m' → iF m' o 42 = 0 → iF m' o 41 = nI (fU W D S e r).1 → mfR m' (64 * o + 25) W D (fU W D S e r) → mEs (d - 1) 203 o g203 (7, [some (.ref o), some (.int (nI e)), some (.int (nI r)), x3], [], m') Q) ?_ ?_ 0 (Nat.zero_le _) _ m1 (mTo.rf T1.wt) (by rw [t1.nf (by omega)]; exact h42) e41 (fun j hj => absurd hj (Nat.not_lt_zero _))
  · intro x3 m2 t2 z42 z41 RU
    obtain ⟨k1, k2, k3, k4⟩ := keep m2 t2
    refine bk203_7 k3.wt k4 ?_
    rw [k1, nIle (by omega) (by omega)]
    refine ⟨fun _ => ?_, fun c => absurd (Nat.le_refl _) c⟩
    -- pairs
    refine upto (e := S.1) (X := fun a => ∀ (x3 : Option Value) (m' : mMem), mTo (fun k => k = 64 * o + 25 ∨ k = 64 * o + 26) (fun k f => k = o ∧ (f = 41 ∨ f = 42)) m1 m' → iF m' o 42 = 0 → (fA W D S e a).1 ≤ 300 → (∀ a' b, a' < a → b < S.1 → isP W D S e a' b → ¬ gtR W E D (jn W D S e a' b)) → iF m' o 41 = nI (fA W D S e a).1 → mfR m' (64 * o + 25) W D (fA W D S e a) → mEs (d - 1) 203 o g203 (58, [some (.ref o), some (.int (nI e)), some (.int (nI a)), x3], [], m') Q) ?_ ?_ 0 (Nat.zero_le _) _ m2 t2 z42 (by have := leU S.1; show (fU W D S e S.1).1 ≤ 300; omega) (fun a' b ha' => absurd ha' (Nat.not_lt_zero _)) z41 RU
    · intro x3 m3 t3 y42 hA300 ng y41 RA
      obtain ⟨q1, q2, q3, q4⟩ := keep m3 t3
      have nf : ¬ farS W E D S e := fun z => z.elim (by omega) (fun ⟨a, b, g1, g2, g3, g4⟩ => ng a b g1 g2 g3 g4)
      have hrA := fA_all (W := W) (D := D) (S := S) (e := e) (X := rowOk W D) hrow S.1 (Nat.le_refl _) (fun a b ha hb hp => jn_ok hE2 (hrow a ha) (hrow b hb) hp (ng a b ha hb hp))
      have eSt : fSt W D S e = fD W (fA W D S e S.1) (fA W D S e S.1).1 := rfl
      refine bk203_58 q3.wt q4 ?_
      rw [q1, nIle (by omega) (by omega)]
      refine ⟨fun _ m4 em4 => ?_, fun c => absurd (Nat.le_refl _) c⟩
      obtain ⟨t4, e39⟩ := sF1 em4 q3.wt q4 (by decide)
      have T4 : mTo (moA o) (moF o) m m4 := q3.tr (t4.mono (fun _ h => h.elim) (fun k f h => ⟨h.1, by omega⟩))
      generalize fA W D S e S.1 = A at *
      have hle : ∀ r, r ≤ A.1 → (fD W A r).1 ≤ r := fun r hr => (fD_all (W := W) (S := A) (X := fun _ => True) (fun _ _ => trivial) r hr).2
      have RA4 : mfR m4 (64 * o + 25) W D A := RA.to t4 id
      have w41 : iF m4 o 41 = nI A.1 := by rw [t4.nf (by omega)]; exact y41
      have w42 : iF m4 o 42 = 0 := by rw [t4.nf (by omega)]; exact y42
      refine upto (e := A.1) (X := fun r => ∀ (x3 : Option Value) (m' : mMem), mTo (fun k => k = 64 * o + 24) (fun k f => k = o ∧ f = 39) m4 m' → iF m' o 39 = nI (fD W A r).1 → mfR m' (64 * o + 24) W D (fD W A r) → mEs (d - 1) 203 o g203 (147, [some (.ref o), some (.int (nI e)), some (.int (nI r)), x3], [], m') Q) ?_ ?_ 0 (Nat.zero_le _) _ m4 (mTo.rf T4.wt) e39 (fun j hj => absurd hj (Nat.not_lt_zero _))
      · intro x3 m5 t5 e39' RD
        have T5 : mTo (moA o) (moF o) m m5 := T4.tr (t5.mono (fun k h => Or.inl h) (fun k f h => ⟨h.1, Or.inl h.2⟩))
        refine bk203_147 T5.wt (t5.ob (t4.ob q4)) ?_
        rw [t5.nf (by omega), w41, nIle (by omega) (by omega)]
        refine ⟨fun _ => hQ m5 T5 ?_, fun c => absurd (Nat.le_refl _) c⟩
        rw [cif_f nf, eSt]
        exact ⟨by rw [t5.nf (by omega)]; exact w42, e39', RD⟩
      · intro r hr ih x3 m5 t5 e39' RD
        have T5 : mTo (moA o) (moF o) m m5 := T4.tr (t5.mono (fun k h => Or.inl h) (fun k f h => ⟨h.1, Or.inl h.2⟩))
        have O5 := t5.ob (t4.ob q4)
        have hl := hle r (by omega)
        refine bk203_147 T5.wt O5 ?_
        rw [t5.nf (by omega), w41, nIle (by omega) (by omega)]
        refine ⟨fun c => by omega, fun _ => ?_⟩
        rw [t5.nf (by omega)]
        refine ⟨fun c => absurd w42 c, fun _ => ?_⟩
        refine ev_goesAway (A := A) (W := W) (D := D) (by omega) T5.wt O5 hW (by rw [t5.nf (by omega)]; exact w41) (by omega) (RA4.to t5 (by omega)) hrA hr ?_
        refine bk203_167 T5.wt O5 ?_
        rw [bz_n0, nIinc]
        refine ⟨fun cb => ?_, fun cb => ?_⟩
        · rintro v rfl
          have ed : fD W A (r + 1) = fD W A r := cif_t cb
          rw [ed] at ih
          exact ih _ m5 t5 e39' RD
        · have ed : fD W A (r + 1) = fAp (fD W A r) (A.2 r) := cif_f cb
          rw [ed] at ih
          have src := mRw_iff.mp (RA4 r hr)
          refine upto (e := 20) (X := fun j => ∀ m', mTo (fun k => k = 64 * o + 24) (fun k f => k = o ∧ f = 39) m4 m' → iF m' o 39 = nI (fD W A r).1 → (∀ q, q < (fD W A r).1 → mRw m' (64 * o + 24) W D q ((fD W A r).2 q)) → (∀ i, i < j → m'.2.2.2.1 (64 * o + 24) (20 * (fD W A r).1 + i) = rw20 W D (A.2 r) i) → mEs (d - 1) 203 o g203 (172, [some (.ref o), some (.int (nI e)), some (.int (nI r)), some (.int (nI j))], [], m') Q) ?_ ?_ 0 (Nat.zero_le _) m5 t5 e39' RD (fun i hi => absurd hi (Nat.not_lt_zero _))
          · intro m6 t6 f39 RD6 g6
            have O6 := t6.ob (t4.ob q4)
            refine bk203_172 t6.wt O6 ⟨fun _ m7 em7 => ?_, fun c => absurd (by decide) c⟩
            rw [f39, nIinc] at em7
            obtain ⟨t7, f7⟩ := sF1 em7 t6.wt O6 (by decide)
            rintro v rfl
            rw [nIinc]
            refine ih _ m7 (t6.tr (t7.mono (fun _ h => h.elim) (fun _ _ h => h))) f7 (fun q hq => ?_)
            have hq' : q < (fD W A r).1 + 1 := hq
            rw [mRw_iff, t7.j id]
            show ∀ j, j < 20 → _ = rw20 W D (if q = (fD W A r).1 then A.2 r else (fD W A r).2 q) j
            intro j hj
            by_cases e2 : q = (fD W A r).1
            · rw [if_pos e2, e2]; exact g6 j hj
            · rw [if_neg e2]; exact mRw_iff.mp (RD6 q (by omega)) j hj
          · intro j hj ihj m6 t6 f39 RD6 g6
            have O6 := t6.ob (t4.ob q4)
            refine bk203_172 t6.wt O6 ?_
            rw [f39, l20, nIle (by omega) (by omega), nI_mul, nI_mul, nI_add, nI_add, nI_clamp (by omega), nI_clamp (by omega), t6.j (show ¬ 64 * o + 25 = 64 * o + 24 by omega), src j hj, nIinc, nIinc, nIinc]
            refine ⟨fun c => by omega, fun _ => ⟨(nIin_iff (by omega)).mpr (by omega), (nIin_iff (by omega)).mpr (by omega), fun m7 em7 => ?_⟩⟩
            obtain ⟨t7, b24⟩ := sJ1 em7 t6.wt
            rintro v rfl
            refine ihj m7 (t6.tr (t7.mono (fun _ h => h) (fun _ _ h => h.elim))) (by rw [t7.nf id]; exact f39) (fun q hq => ?_) (fun i hi => ?_)
            · rw [mRw_iff, b24]
              intro i hi
              rw [upL_n (by omega)]
              exact mRw_iff.mp (RD6 q hq) i hi
            · rw [b24]
              by_cases e2 : i = j
              · subst e2; rw [upL_s]
              · rw [upL_n (by omega)]; exact g6 i (by omega)
    · intro a ha ih x3 m3 t3 y42 hA300 ng y41 RA
      obtain ⟨q1, q2, q3, q4⟩ := keep m3 t3
      have eA : fA W D S e (a + 1) = fB W D S e a (fA W D S e a) S.1 := rfl
      refine bk203_58 q3.wt q4 ?_
      rw [q1, nIle (by omega) (by omega)]
      refine ⟨fun c => by omega, fun _ => ?_⟩
      refine upto (e := S.1) (X := fun b => ∀ (m' : mMem), mTo (fun k => k = 64 * o + 25 ∨ k = 64 * o + 26) (fun k f => k = o ∧ (f = 41 ∨ f = 42)) m1 m' → iF m' o 42 = 0 → (fB W D S e a (fA W D S e a) b).1 ≤ 300 → (∀ b', b' < b → isP W D S e a b' → ¬ gtR W E D (jn W D S e a b')) → iF m' o 41 = nI (fB W D S e a (fA W D S e a) b).1 → mfR m' (64 * o + 25) W D (fB W D S e a (fA W D S e a) b) → mEs (d - 1) 203 o g203 (68, [some (.ref o), some (.int (nI e)), some (.int (nI a)), some (.int (nI b))], [], m') Q) ?_ ?_ 0 (Nat.zero_le _) m3 t3 y42 hA300 (fun b' hb' => absurd hb' (Nat.not_lt_zero _)) y41 RA
      · intro m4 t4 w42 hB300 ngb w41 RB
        obtain ⟨p1, p2, p3, p4⟩ := keep m4 t4
        refine bk203_68 p3.wt p4 ?_
        rw [p1, nIle (by omega) (by omega), nIinc]
        refine ⟨fun _ => ?_, fun c => absurd (Nat.le_refl _) c⟩
        rintro v rfl
        rw [← eA] at hB300 w41 RB
        refine ih _ m4 t4 w42 hB300 (fun a' b ha' hb hp => ?_) w41 RB
        by_cases q : a' = a
        · subst q; exact ngb b hb hp
        · exact ng a' b (by omega) hb hp
      · intro b hb ihb m4 t4 w42 hB300 ngb w41 RB
        obtain ⟨p1, p2, p3, p4⟩ := keep m4 t4
        have ca := cmp0 _ (hcl a ha)
        have cb := cmp0 _ (hcl b hb)
        have skip : ¬ isP W D S e a b → mEs (d - 1) 203 o g203 (128, [some (.ref o), some (.int (nI e)), some (.int (nI a)), some (.int (nI b))], [], m4) Q := by
          intro hn
          have ed : fB W D S e a (fA W D S e a) (b + 1) = fB W D S e a (fA W D S e a) b := cif_f hn
          rw [ed] at ihb
          refine bk203_128 p3.wt p4 ?_
          rintro v rfl
          rw [nIinc]
          refine ihb m4 t4 w42 hB300 (fun b' hb' hp => ?_) w41 RB
          by_cases q : b' = b
          · subst q; exact absurd hp hn
          · exact ngb b' (by omega) hp
        refine bk203_68 p3.wt p4 ?_
        rw [p1, nIle (by omega) (by omega), l20, l10, nI_mul, nI_mul, nI_add, nI_add, nI_add, nI_add, nI_clamp (by omega), nI_clamp (by omega), (p2 a ha).2 e (by omega), (p2 b hb).2 e (by omega), lg_cmp_le, lg_cmp_ge, ca.2.1, cb.2.2]
        refine ⟨fun c => by omega, fun _ => ⟨fun c => absurd w42 c, fun _ => ⟨(nIin_iff (by omega)).mpr (by omega), fun c1 => ?_, fun c1 => ⟨(nIin_iff (by omega)).mpr (by omega), fun c2 => ?_, fun c2 => ?_⟩⟩⟩⟩
        · exact skip (fun z => by have := z.1; omega)
        · exact skip (fun z => by have := z.2; omega)
        · have hp : isP W D S e a b := ⟨by omega, by omega⟩
          have ed : fB W D S e a (fA W D S e a) (b + 1) = fAp (fB W D S e a (fA W D S e a) b) (jn W D S e a b) := cif_t hp
          have hmb1 := fB_mono (W := W) (D := D) (S := S) (e := e) (A := fA W D S e a) (a := a) (show b + 1 ≤ S.1 by omega)
          rw [← eA] at hmb1
          have hma1 := fA_mono (W := W) (D := D) (S := S) (e := e) (show a + 1 ≤ S.1 by omega)
          have h301 : (fB W D S e a (fA W D S e a) b).1 = 300 → farS W E D S e := by
            intro z
            refine Or.inl ?_
            rw [ed] at hmb1
            have : (fB W D S e a (fA W D S e a) b).1 + 1 ≤ (fA W D S e (a + 1)).1 := hmb1
            omega
          rw [ed] at ihb
          generalize fB W D S e a (fA W D S e a) b = A at *
          refine ev_addPair (E := E) (A := A) (by omega) p3.wt p4 hW hE hE2 hS p2 w42 ha hb (by omega) hp w41 hB300 RB ?_ ?_
          · intro hf m5 t5 v42
            have t5' : mTo (fun k => k = 64 * o + 25 ∨ k = 64 * o + 26) (fun k f => k = o ∧ (f = 41 ∨ f = 42)) m1 m5 := t4.tr (t5.mono (fun _ h => Or.inr h) (fun k f h => ⟨h.1, Or.inr h.2⟩))
            obtain ⟨s1, s2, s3, s4⟩ := keep m5 t5'
            have hfar : farS W E D S e := hf.elim (fun g => Or.inr ⟨a, b, ha, hb, hp, g⟩) h301
            have nz : ¬ iF m5 o 42 = 0 := by rw [v42]; decide
            have f58 := far 0 none m5 t5' v42 hfar (a + 1) (by omega)
            refine bk203_128 s3.wt s4 ?_
            rintro v rfl
            refine bk203_68 s3.wt s4 ⟨fun _ => ?_, fun _ => ⟨fun _ => ?_, fun c => absurd nz c⟩⟩
            · rintro v rfl; rw [nIinc]; exact f58 _
            · rintro v rfl; rw [nIinc]; exact f58 _
          · intro ng1 hlt m5 t5 v42 v41 R5
            have t5' : mTo (fun k => k = 64 * o + 25 ∨ k = 64 * o + 26) (fun k f => k = o ∧ (f = 41 ∨ f = 42)) m1 m5 := t4.tr t5
            obtain ⟨s1, s2, s3, s4⟩ := keep m5 t5'
            refine bk203_128 s3.wt s4 ?_
            rintro v rfl
            rw [nIinc]
            refine ihb m5 t5' v42 (by show A.1 + 1 ≤ 300; omega) (fun b' hb' hp' => ?_) v41 R5
            by_cases q : b' = b
            · subst q; exact ng1
            · exact ngb b' (by omega) hp'
  · intro r hr ih x3 m2 t2 z42 z41 RU
    obtain ⟨k1, k2, k3, k4⟩ := keep m2 t2
    have cr := cmp0 _ (hcl r hr)
    have hl := leU r
    refine bk203_7 k3.wt k4 ?_
    rw [k1, nIle (by omega) (by omega), l20, l10, nI_mul, nI_add, nI_add, nI_clamp (by omega), (k2 r hr).2 e (by omega), lg_cmp_eq, cr.1]
    refine ⟨fun c => by omega, fun _ => ⟨fun c => absurd z42 c, fun _ => ⟨(nIin_iff (by omega)).mpr (by omega), fun c0 => ?_, fun c0 => ?_⟩⟩⟩
    · have ed : fU W D S e (r + 1) = fU W D S e r := if_neg c0
      rw [ed] at ih
      refine bk203_50 k3.wt k4 ?_
      rintro v rfl
      rw [nIinc]
      exact ih _ m2 t2 z42 z41 RU
    · have ed : fU W D S e (r + 1) = fAp (fU W D S e r) (S.2 r) := if_pos (Classical.not_not.mp c0)
      rw [ed] at ih
      refine ev_addRow (A := fU W D S e r) (row := S.2 r) (W := W) (D := D) (l := 6020) (by omega) k3.wt k4 (k3.wt.arr k4 23 rfl (by decide)) (by omega) (Nat.le_refl _) (by omega) z41 (by omega) RU (k2 r hr) ?_ ?_
      · intro h3; omega
      · intro h3 m3 t3 v41 R3
        have t3' : mTo (fun k => k = 64 * o + 25 ∨ k = 64 * o + 26) (fun k f => k = o ∧ (f = 41 ∨ f = 42)) m1 m3 := t2.tr (t3.mono (fun _ h => Or.inl h) (fun k f h => ⟨h.1, Or.inl h.2⟩))
        obtain ⟨s1, s2, s3, s4⟩ := keep m3 t3'
        refine bk203_50 s3.wt s4 ?_
        rintro v rfl
        rw [nIinc]
        exact ih _ m3 t3' (by rw [t3.nf (by omega)]; exact z42) v41 R3
end MFW2
