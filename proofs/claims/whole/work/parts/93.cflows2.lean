/-! The class Flows: dropping rows, one step. -/
theorem sR1 {m m' : mMem} {k f ci v : Nat} (e : m' = mSetF m k f (.ref v)) (hT : mWT m) (ho : m.1 k = some (.inr ci) ∧ k ≠ 0) (hn : ∀ r ∈ mOwn ci, r.1 ≠ f) (hn2 : f ∉ mInts ci) : mTo (fun _ => False) (fun k' f' => k' = k ∧ f' = f) m m' ∧ m'.2.1 k f = .ref v := by
  subst e
  exact ⟨(mTo.rf hT).sR ho ⟨rfl, rfl⟩ hn hn2, rdF_same⟩
def fdA (c ra k : Nat) : Prop := k = ra ∨ k = 64 * c + 4 ∨ k = 64 * c + 5
def fdF (c k f : Nat) : Prop := k = c ∧ f = 1
def fsA (c k : Nat) : Prop := 64 * c + 1 ≤ k ∧ k ≤ 64 * c + 7
def fsF (c k f : Nat) : Prop := k = c ∧ (f = 1 ∨ f = 2 ∨ f = 4 ∨ f = 5)
section CFW2
variable {d c n P T W E ra rb r e : Nat} {pl : Prop} {tk pt : Nat → Nat → Nat} {fi row : Nat → Nat} {S : fwS} {m : mMem} {Q : Option Value → mMem → Prop}
theorem ev_usedBy (hd : 1 ≤ d) (hT : mWT m) (hB : fcB m c W E pl ra rb) (hW : W ≤ 10) (hr : r < 300) (hv : ∀ k, k < W → m.2.2.1 ra (r * 10 + k) = nI (row k)) (hv2 : ∀ k, k < W → row k < 2 ^ 31) (hQ : Q (some (.int (nI (uB W row)))) m) : mEv d 89 [.ref c, .int (nI r)] m Q := by
  obtain ⟨a1, a2, a3, a4, a5, a6, a7, a8, a9⟩ := id hB
  refine mEv.at (by omega) G89 (Nat.le_of_ble_eq_true rfl) ?_
  refine bk89_0 hT a1 ?_
  refine upto (e := W) (X := fun k => mEs (d - 1) 89 c g89 (4, [some (.ref c), some (.int (nI r)), some (.int (nI (bs (fun k => row k ≠ 0) k))), some (.int (nI k))], [], m) Q) ?_ ?_ 0 (Nat.zero_le _)
  · refine bk89_4 hT a1 ?_
    rw [a8, nIle (by omega) (by omega)]
    exact ⟨fun _ => hQ, fun c => absurd (Nat.le_refl _) c⟩
  · intro k hk' ih
    have h1 := hv2 k hk'
    refine bk89_4 hT a1 ?_
    rw [a8, nIle (by omega) (by omega)]
    refine ⟨fun c => by omega, fun _ => ⟨ra, 3000, a2, a4, ?_⟩⟩
    rw [l10, nI_mul, nI_add, nI_clamp (by omega), hv k hk', nIeq0 h1, nIinc, shl1 (by omega), or_n]
    refine ⟨(nIin_iff (by omega)).mpr (by omega), fun c1 => ?_, fun c1 => ?_⟩
    · rintro v rfl
      rw [bs_sf (C := fun k => row k ≠ 0) (fun z => z c1)] at ih; exact ih
    · rintro v rfl v2 rfl
      rw [bs_st (C := fun k => row k ≠ 0) c1] at ih; exact ih
theorem ev_isBeaten (hd : 1 ≤ d) (hT : mWT m) (hO : m.1 c = some (.inr 4) ∧ c ≠ 0) (hW : W ≤ 10) (h1 : iF m c 1 = nI S.1) (h300 : S.1 ≤ 300) (hu : ∀ q, q < S.1 → m.2.2.1 (64 * c + 4) q = nI (uB W (S.2 q))) (hr : r < S.1) (hQ : Q (some (.int (bz (beat W S r)))) m) : mEv d 90 [.ref c, .int (nI r)] m Q := by
  have ul : ∀ q, uB W (S.2 q) < 1024 := fun q => uB_lt hW
  refine mEv.at (by omega) G90 (Nat.le_of_ble_eq_true rfl) ?_
  refine bk90_0 hT hO ?_
  refine upto (e := S.1) (X := fun o => ∀ x3 : Option Value, (∀ j, j < o → ¬ (sbN (uB W (S.2 j)) (uB W (S.2 r)) ∧ (uB W (S.2 j) ≠ uB W (S.2 r) ∨ j < r))) → mEs (d - 1) 90 c g90 (2, [some (.ref c), some (.int (nI r)), some (.int (nI o)), x3], [], m) Q) ?_ ?_ 0 (Nat.zero_le _) _ (fun j hj => absurd hj (Nat.not_lt_zero _))
  · intro x3 hq
    refine bk90_2 hT hO ?_
    rw [h1, nIle (by omega) (by omega)]
    rw [bz_f (C := beat W S r) (fun ⟨o, h1, h2⟩ => hq o h1 h2)] at hQ
    exact ⟨fun _ => hQ, fun c => absurd (Nat.le_refl _) c⟩
  · intro o ho ih x3 hq
    have u1 := ul o
    have u2 := ul r
    have u3 := dfB_lt (b := uB W (S.2 r)) u1
    refine bk90_2 hT hO ?_
    rw [h1, nIle (by omega) (by omega), nI_clamp (by omega), nI_clamp (by omega), hu o ho, hu r hr, not_n u1, nIeq0 (by omega), dfB_0 u1, nIeq (by omega) (by omega), nIle (by omega) (by omega), nIinc]
    have nx : ¬ (sbN (uB W (S.2 o)) (uB W (S.2 r)) ∧ (uB W (S.2 o) ≠ uB W (S.2 r) ∨ o < r)) → ∀ x3 : Option Value, mEs (d - 1) 90 c g90 (2, [some (.ref c), some (.int (nI r)), some (.int (nI (o + 1))), x3], [], m) Q := by
      intro h x3
      refine ih _ (fun j hj => ?_)
      by_cases q : j = o
      · subst q; exact h
      · exact hq j (by omega)
    have hin1 : mIn (nI o) 300 = true := (nIin_iff (by omega)).mpr (by omega)
    have hin2 : mIn (nI r) 300 = true := (nIin_iff (by omega)).mpr (by omega)
    refine ⟨fun c => by omega, fun _ => ⟨hin1, hin2, fun c1 => ?_, fun c1 => ⟨hin1, hin2, fun c2 => ?_, fun c2 => ⟨fun c3 => ?_, fun c3 => ?_⟩⟩⟩⟩
    · rintro v rfl
      exact nx (fun z => c1 z.1) _
    · rw [bz_t (C := beat W S r) ⟨o, ho, Classical.not_not.mp c1, Or.inl c2⟩] at hQ; exact hQ
    · rintro v rfl
      exact nx (fun z => z.2.elim c2 (by omega)) _
    · rw [bz_t (C := beat W S r) ⟨o, ho, Classical.not_not.mp c1, Or.inr (by omega)⟩] at hQ; exact hQ
theorem ev_dropRows (hd : 2 ≤ d) (hT : mWT m) (hB : fcB m c W E pl ra rb) (hW : W ≤ 10) (h1 : iF m c 1 = nI S.1) (h300 : S.1 ≤ 300) (hR : fcR m ra W S) (hv2 : ∀ r, r < S.1 → ∀ k, k < W → S.2 r k < 2 ^ 31)
    (hQ : ∀ m', mTo (fdA c ra) (fdF c) m m' → iF m' c 1 = nI (fD W S S.1).1 → fcR m' ra W (fD W S S.1) → (∀ j, j < (fD W S S.1).1 → m'.2.2.1 (64 * c + 4) j = nI (uB W ((fD W S S.1).2 j))) → Q none m') : mEv d 88 [.ref c] m Q := by
  obtain ⟨a1, a2, a3, a4, a5, a6, a7, a8, a9⟩ := id hB
  refine mEv.at (by omega) G88 (Nat.le_of_ble_eq_true rfl) ?_
  refine bk88_0 hT a1 ?_
  -- what each uses
  refine upto (e := S.1) (X := fun r => ∀ (x2 : Option Value) (m' : mMem), mTo (fun k => k = 64 * c + 4) (fun _ _ => False) m m' → (∀ q, q < r → m'.2.2.1 (64 * c + 4) q = nI (uB W (S.2 q))) → mEs (d - 1) 88 c g88 (2, [some (.ref c), some (.int (nI r)), x2], [], m') Q) ?_ ?_ 0 (Nat.zero_le _) _ m (mTo.rf hT) (fun j hj => absurd hj (Nat.not_lt_zero _))
  · intro x2 m1 T1 hu
    refine bk88_2 T1.wt (T1.ob a1) ?_
    rw [T1.nf id, h1, nIle (by omega) (by omega)]
    refine ⟨fun _ => ?_, fun c => absurd (Nat.le_refl _) c⟩
    -- whether it goes
    refine upto (e := S.1) (X := fun r => ∀ (x2 : Option Value) (m' : mMem), mTo (fun k => k = 64 * c + 5) (fun _ _ => False) m1 m' → (∀ q, q < r → m'.2.2.1 (64 * c + 5) q = bz (beat W S q)) → mEs (d - 1) 88 c g88 (29, [some (.ref c), some (.int (nI r)), x2], [], m') Q) ?_ ?_ 0 (Nat.zero_le _) _ m1 (mTo.rf T1.wt) (fun j hj => absurd hj (Nat.not_lt_zero _))
    · intro x2 m2 t2 hg
      have T2 : mTo (fdA c ra) (fdF c) m m2 := (T1.mono (fun k h => Or.inr (Or.inl h)) (fun _ _ h => h.elim)).tr (t2.mono (fun k h => Or.inr (Or.inr h)) (fun _ _ h => h.elim))
      refine bk88_29 T2.wt (T2.ob a1) ?_
      rw [t2.nf id, T1.nf id, h1, nIle (by omega) (by omega)]
      refine ⟨fun _ => ?_, fun c => absurd (Nat.le_refl _) c⟩
      have hR2 : fcR m2 ra W S := by
        unfold fcR
        rw [t2.i (by omega), T1.i (by omega)]; exact hR
      have hu2 : ∀ q, q < S.1 → m2.2.2.1 (64 * c + 4) q = nI (uB W (S.2 q)) := by rw [t2.i (by omega)]; exact hu
      have e1 : iF m2 c 1 = nI S.1 := by rw [t2.nf id, T1.nf id]; exact h1
      have hle : ∀ r, r ≤ S.1 → (fD W S r).1 ≤ r := fun r hr => (fD_all (W := W) (S := S) (X := fun _ => True) (fun _ _ => trivial) r hr).2
      -- those that stay
      refine upto (e := S.1) (X := fun r => ∀ (m' : mMem), mTo (fun k => k = ra ∨ k = 64 * c + 4) (fun _ _ => False) m2 m' → fcR m' ra W (fD W S r) → (∀ q, r ≤ q → q < S.1 → ∀ k, k < W → m'.2.2.1 ra (q * 10 + k) = nI (S.2 q k)) → (∀ j, j < (fD W S r).1 → m'.2.2.1 (64 * c + 4) j = nI (uB W ((fD W S r).2 j))) → (∀ q, r ≤ q → q < S.1 → m'.2.2.1 (64 * c + 4) q = nI (uB W (S.2 q))) → mEs (d - 1) 88 c g88 (58, [some (.ref c), some (.int (nI (fD W S r).1)), some (.int (nI r))], [], m') Q) ?_ ?_ 0 (Nat.zero_le _) m2 (mTo.rf T2.wt) (fun j hj => absurd hj (Nat.not_lt_zero _)) (fun q _ hq => hR2 q hq) (fun j hj => absurd hj (Nat.not_lt_zero _)) (fun q _ hq => hu2 q hq)
      · intro m' t' g1 g2 g3 g4
        have T' : mTo (fdA c ra) (fdF c) m m' := T2.tr (t'.mono (fun k h => h.elim Or.inl (fun h => Or.inr (Or.inl h))) (fun _ _ h => h.elim))
        refine bk88_58 T'.wt (T'.ob a1) (by omega) ?_
        rw [t'.nf id, e1, nIle (by omega) (by omega)]
        refine ⟨fun _ => ?_, fun c => absurd (Nat.le_refl _) c⟩
        intro m3 em3
        obtain ⟨t3, e3⟩ := sF1 em3 T'.wt (T'.ob a1) (by decide)
        refine hQ m3 (T'.tr (t3.mono (fun _ h => h.elim) (fun k f h => h))) e3 ?_ ?_
        · unfold fcR
          rw [t3.i id]; exact g1
        · rw [t3.i id]; exact g3
      · intro r hr ih m' t' g1 g2 g3 g4
        have T' : mTo (fdA c ra) (fdF c) m m' := T2.tr (t'.mono (fun k h => h.elim Or.inl (fun h => Or.inr (Or.inl h))) (fun _ _ h => h.elim))
        have hl := hle r (by omega)
        refine bk88_58 T'.wt (T'.ob a1) (by omega) ?_
        rw [t'.nf id, e1, nIle (by omega) (by omega), nI_clamp (by omega), t'.i (by omega), hg r hr, bz_n0, nIinc, nIinc]
        refine ⟨fun c => by omega, fun _ => ⟨(nIin_iff (by omega)).mpr (by omega), fun cb => ?_, fun cb => ?_⟩⟩
        · rintro v rfl
          have ed : fD W S (r + 1) = fD W S r := cif_t cb
          rw [ed] at ih
          exact ih m' t' g1 (fun q hq => g2 q (by omega)) g3 (fun q hq => g4 q (by omega))
        · have ed : fD W S (r + 1) = fAp (fD W S r) (S.2 r) := cif_f cb
          rw [ed] at ih
          refine ⟨ra, 3000, by rw [T'.fl (by unfold fdF; omega)]; exact a2, T'.ob a4, ra, 3000, by rw [T'.fl (by unfold fdF; omega)]; exact a2, T'.ob a4, ?_⟩
          simp only [c10c]
          rw [l10, nI_mul, nI_mul, nI_clamp (by omega), nI_clamp (by omega), nI_clamp (by omega)]
          refine ⟨⟨nI_nlt0 (by omega), nI_nlt0 (by omega), by decide, by omega, by omega⟩, fun m3 em3 => ⟨(nIin_iff (by omega)).mpr (by omega), (nIin_iff (by omega)).mpr (by omega), fun m4 em4 => ?_⟩⟩
          obtain ⟨t3, b1⟩ := sI1 em3 T'.wt
          obtain ⟨t4, b4⟩ := sI1 em4 t3.wt
          rw [t3.i (by omega), g4 r (Nat.le_refl _) hr] at b4
          rintro v rfl v2 rfl
          refine ih m4 ((t'.tr (t3.mono (fun k h => Or.inl h) (fun _ _ h => h.elim))).tr (t4.mono (fun k h => Or.inr h) (fun _ _ h => h.elim))) (fun j hj k hk' => ?_) (fun q hq hq2 k hk' => ?_) (fun j hj => ?_) (fun q hq hq2 => ?_)
          · have hj' : j < (fD W S r).1 + 1 := hj
            show _ = nI ((if j = (fD W S r).1 then S.2 r else (fD W S r).2 j) k)
            rw [t4.i (by omega), b1]
            by_cases e : j = (fD W S r).1
            · rw [if_pos e, e, cp_in (by omega) (by omega), show r * 10 + ((fD W S r).1 * 10 + k - (fD W S r).1 * 10) = r * 10 + k by omega]
              exact g2 r (Nat.le_refl _) hr k hk'
            · rw [if_neg e, cp_out (by omega)]; exact g1 j (by omega) k hk'
          · rw [t4.i (by omega), b1, cp_out (by omega)]; exact g2 q (by omega) hq2 k hk'
          · have hj' : j < (fD W S r).1 + 1 := hj
            show _ = nI (uB W (if j = (fD W S r).1 then S.2 r else (fD W S r).2 j))
            rw [b4]
            by_cases e : j = (fD W S r).1
            · rw [if_pos e, e, up_s]
            · rw [if_neg e, up_n e]; exact g3 j (by omega)
          · rw [b4, up_n (by omega)]; exact g4 q (by omega) hq2
    · intro r hr ih x2 m' t' hg
      have T' := T1.ob a1
      refine bk88_29 t'.wt (t'.ob T') ?_
      rw [t'.nf id, T1.nf id, h1, nIle (by omega) (by omega)]
      refine ⟨fun c => by omega, fun _ => ?_⟩
      refine ev_isBeaten (W := W) (S := S) (by omega) t'.wt (t'.ob T') hW (by rw [t'.nf id, T1.nf id]; exact h1) h300 (by rw [t'.i (by omega)]; exact hu) hr ?_
      refine bk88_47 t'.wt (t'.ob T') (ly0 := 300) (t'.wt.arr (t'.ob T') 2 rfl (by decide)) ⟨(nIin_iff (by omega)).mpr (by omega), bz_01 _, fun m2 em2 => ?_⟩
      rw [nI_clamp (by omega)] at em2
      obtain ⟨t2, b5⟩ := sI1 em2 t'.wt
      rintro v rfl
      rw [nIinc]
      refine ih _ m2 (t'.tr t2) (fun q hq => ?_)
      rw [b5]
      by_cases e : q = r
      · subst e; rw [up_s]
      · rw [up_n e]; exact hg q (by omega)
  · intro r hr ih x2 m' T' hu
    refine bk88_2 T'.wt (T'.ob a1) ?_
    rw [T'.nf id, h1, nIle (by omega) (by omega)]
    refine ⟨fun c => by omega, fun _ => ?_⟩
    refine ev_usedBy (row := S.2 r) (by omega) T'.wt (hB.to T' id id id id id) hW (by omega) (by rw [T'.i (by omega)]; exact hR r hr) (hv2 r hr) ?_
    refine bk88_20 T'.wt (T'.ob a1) (ly0 := 300) (T'.wt.arr (T'.ob a1) 1 rfl (by decide)) ⟨(nIin_iff (by omega)).mpr (by omega), fun m2 em2 => ?_⟩
    rw [nI_clamp (by omega)] at em2
    obtain ⟨t2, b4⟩ := sI1 em2 T'.wt
    rintro v rfl
    rw [nIinc]
    refine ih _ m2 (T'.tr t2) (fun q hq => ?_)
    rw [b4]
    by_cases e : q = r
    · subst e; rw [up_s]
    · rw [up_n e]; exact hu q (by omega)
/-- the object behind a step: too far, or the rows as they are to be -/
def fcM (m : mMem) (c W ra : Nat) (o : Option fwS) : Prop := match o with
  | none => iF m c 2 = 1
  | some S => iF m c 2 = 0 ∧ iF m c 1 = nI S.1 ∧ fcR m ra W S ∧ ∀ j, j < S.1 → m.2.2.1 (64 * c + 4) j = nI (uB W (S.2 j))
theorem ev_settle (hd : 4 ≤ d) (hT : mWT m) (hB : fcB m c W E pl ra rb) (hW : W ≤ 10) (hE : E ≤ 10) (hE2 : ∀ k e, E ≤ e → dF pl tk pt k e = 0) (hN : cNet m n P T tk pt fi) (hk : okNet P T tk pt fi) (hnc : n ≠ c) (hS : fOk W (dF pl tk pt) S) (hM : fcM m c W ra (some S)) (he : e < E)
    (hQ : ∀ m' ra' rb', mTo (fsA c) (fsF c) m m' → fcB m' c W E pl ra' rb' → fcM m' c W ra' (cif (farS W E (dF pl tk pt) S e) none (some (fSt W (dF pl tk pt) S e))) → Q none m') : mEv d 82 [.ref c, .ref n, .int (nI e)] m Q := by
  obtain ⟨a1, a2, a3, a4, a5, a6, a7, a8, a9⟩ := id hB
  obtain ⟨h2, h1, hR, _⟩ := id hM
  obtain ⟨h300, hrow, hinj⟩ := id hS
  have hDk := dF_9 hk pl
  have hcl : ∀ r, r < S.1 → (chI W (dF pl tk pt) (S.2 r) e).natAbs ≤ 1000000000 := fun r hr => (hrow r hr).2.2.1 e
  refine mEv.at (by omega) G82 (Nat.le_of_ble_eq_true rfl) ?_
  refine bk82_0 hT a1 hN.1 ?_
  have c1l : ∀ n, cct (fun r => 0 < chI W (dF pl tk pt) (S.2 r) e) n ≤ n := fun n => cct_le _
  have c2l : ∀ n, cct (fun r => chI W (dF pl tk pt) (S.2 r) e < 0) n ≤ n := fun n => cct_le _
  refine upto (e := S.1) (X := fun r => ∀ (x6 x7 : Option Value) (m' : mMem), mTo (fun k => k = 64 * c + 3) (fun _ _ => False) m m' → (∀ q, q < r → m'.2.2.1 (64 * c + 3) q = iI (chI W (dF pl tk pt) (S.2 q) e)) → mEs (d - 1) 82 c g82 (8, [some (.ref c), some (.ref n), some (.int (nI e)), some (.int (nI (cct (fun r => 0 < chI W (dF pl tk pt) (S.2 r) e) r))), some (.int (nI (cct (fun r => chI W (dF pl tk pt) (S.2 r) e < 0) r))), some (.int (nI r)), x6, x7], [], m') Q) ?_ ?_ 0 (Nat.zero_le _) _ _ m (mTo.rf hT) (fun q hq => absurd hq (Nat.not_lt_zero _))
  · intro x6 x7 m1 T1 hC
    have B1 := hB.to T1 id id id id id
    have R1 : fcR m1 ra W S := by unfold fcR; rw [T1.i (by omega)]; exact hR
    have e1 : iF m1 c 1 = nI S.1 := by rw [T1.nf id]; exact h1
    have e2 : iF m1 c 2 = 0 := by rw [T1.nf id]; exact h2
    have N1 := hN.to T1 (by omega) (by omega) (by omega) id id
    have hfa := fA_n (W := W) (D := dF pl tk pt) (S := S) (e := e) S.1
    have h3 := three_n (W := W) (D := dF pl tk pt) (S := S) (e := e) S.1
    have l1 := c1l S.1
    have l2' := c2l S.1
    refine bk82_8 T1.wt (T1.ob a1) (T1.ob hN.1) ?_
    rw [e1, nIle (by omega) (by omega)]
    refine ⟨fun _ => ?_, fun c => absurd (Nat.le_refl _) c⟩
    have hmul : cct (fun r => 0 < chI W (dF pl tk pt) (S.2 r) e) S.1 * cct (fun r => chI W (dF pl tk pt) (S.2 r) e < 0) S.1 ≤ 300 * 300 := Nat.mul_le_mul (by omega) (by omega)
    rw [pk_sub (by omega), pk_sub (by omega), nI_mul, nI_add, show S.1 - cct (fun r => 0 < chI W (dF pl tk pt) (S.2 r) e) S.1 - cct (fun r => chI W (dF pl tk pt) (S.2 r) e < 0) S.1 + cct (fun r => 0 < chI W (dF pl tk pt) (S.2 r) e) S.1 * cct (fun r => chI W (dF pl tk pt) (S.2 r) e < 0) S.1 = (fA W (dF pl tk pt) S e S.1).1 by omega, l300, nIle (by omega) (by omega)]
    refine ⟨fun c3 => ?_, fun c3 => ?_⟩
    · refine ev_copyUn (by omega) T1.wt B1 hW e1 hS R1 hC ?_
      intro m2 t2 R2
      have T2 : mTo (fsA c) (fsF c) m m2 := (T1.mono (fun k h => by unfold fsA; omega) (fun _ _ h => h.elim)).tr (t2.mono (fun k h => by unfold fsA; omega) (fun _ _ h => h.elim))
      refine bk82_111 T2.wt (T2.ob a1) (T2.ob hN.1) ?_
      -- the rows that stand, and those that come
      have keep : ∀ (m' : mMem), mTo (fun k => k = rb ∨ k = 64 * c + 7) (fun k f => k = c ∧ f = 2) m1 m' → fcB m' c W E pl ra rb ∧ iF m' c 1 = nI S.1 ∧ fcR m' ra W S ∧ (∀ q, q < S.1 → m'.2.2.1 (64 * c + 3) q = iI (chI W (dF pl tk pt) (S.2 q) e)) ∧ cNet m' n P T tk pt fi ∧ mTo (fsA c) (fsF c) m m' := by
        intro m' t'
        refine ⟨B1.to t' (by omega) (by omega) (by omega) (by omega) (by omega), by rw [t'.nf (by omega)]; exact e1, by unfold fcR; rw [t'.i (by omega)]; exact R1, by rw [t'.i (by omega)]; exact hC, N1.to t' (by omega) (by omega) (by omega) (by omega) (by omega), ?_⟩
        exact (T1.mono (fun k h => by unfold fsA; omega) (fun _ _ h => h.elim)).tr (t'.mono (fun k h => by unfold fsA; omega) (fun k f h => ⟨h.1, by omega⟩))
      -- the end: the arrays change places, rows go
      have fin : ∀ (A : fwS) (m' : mMem) (x6 : Int32) (x7 : Option Value), mTo (fun k => k = rb ∨ k = 64 * c + 7) (fun k f => k = c ∧ f = 2) m1 m' → A.1 ≤ 300 → fcR m' rb W A → (∀ r, r < A.1 → ∀ k, k < W → A.2 r k < 2 ^ 31) → ((iF m' c 2 = 1 ∧ farS W E (dF pl tk pt) S e) ∨ (iF m' c 2 = 0 ∧ A = fA W (dF pl tk pt) S e S.1 ∧ ¬ farS W E (dF pl tk pt) S e)) → (∃ (r_1 l_2 : Nat), (m'.2.1 c 4 = .ref r_1) ∧ ((m'.1 r_1 = some (.inl (.int, l_2)) ∧ r_1 ≠ 0) ∧ (∃ (r_4 l_5 : Nat), (m'.2.1 c 5 = .ref r_4) ∧ ((m'.1 r_4 = some (.inl (.int, l_5)) ∧ r_4 ≠ 0) ∧ (∀ (m_7 : mMem), m_7 = (mSetF m' c 4 (.ref r_4)) → ∀ (m_9 : mMem), m_9 = (mSetF m_7 c 5 (.ref r_1)) → ∀ (m_11 : mMem), m_11 = (mSetF m_9 c 1 (.int (nI A.1))) → mEv (d - 1) 88 [.ref c] m_11 (fun r m' => mEs (d - 1) 82 c g82 (237, [some (.ref c), some (.ref n), some (.int (nI e)), some (.int (nI (cct (fun r => 0 < chI W (dF pl tk pt) (S.2 r) e) S.1))), some (.int (nI (cct (fun r => chI W (dF pl tk pt) (S.2 r) e < 0) S.1))), some (.int (nI A.1)), some (.ref r_1), x7], r.toList ++ [], m') Q)))))) := by
        intro A m' x6 x7 t' hA RA hv fz
        obtain ⟨k1, k2, k3, k4, k5, k6⟩ := keep m' t'
        obtain ⟨b1, b2, b3, b4, b5, b6, b7, b8, b9⟩ := id k1
        refine ⟨ra, 3000, b2, b4, rb, 3000, b3, b5, fun m7 em7 m9 em9 m11 em11 => ?_⟩
        obtain ⟨t7, f4⟩ := sR1 em7 t'.wt b1 (by decide) (by decide)
        obtain ⟨t9, f5⟩ := sR1 em9 t7.wt (t7.ob b1) (by decide) (by decide)
        obtain ⟨t11, f1⟩ := sF1 em11 t9.wt (t9.ob (t7.ob b1)) (by decide)
        have T11 : mTo (fun _ => False) (fun k f => k = c ∧ (f = 1 ∨ f = 4 ∨ f = 5)) m' m11 := ((t7.mono (fun _ h => h) (fun k f h => ⟨h.1, by omega⟩)).tr (t9.mono (fun _ h => h) (fun k f h => ⟨h.1, by omega⟩))).tr (t11.mono (fun _ h => h) (fun k f h => ⟨h.1, by omega⟩))
        have B11 : fcB m11 c W E pl rb ra := ⟨T11.ob b1, by rw [t11.fl (by omega), t9.fl (by omega)]; exact f4, by rw [t11.fl (by omega)]; exact f5, T11.ob b5, T11.ob b4, by omega, by rw [T11.nf (by omega)]; exact b7, by rw [T11.nf (by omega)]; exact b8, by rw [T11.nf (by omega)]; exact b9⟩
        refine ev_dropRows (S := A) (by omega) T11.wt B11 hW f1 hA (by unfold fcR; rw [T11.i id]; exact RA) hv ?_
        intro m12 t12 g1 g2 g3
        have T12 : mTo (fsA c) (fsF c) m m12 := (k6.tr (T11.mono (fun _ h => h.elim) (fun k f h => ⟨h.1, by omega⟩))).tr (t12.mono (fun k h => by unfold fdA at h; unfold fsA; omega) (fun k f h => ⟨h.1, Or.inl h.2⟩))
        refine bk82_237 T12.wt (T12.ob a1) (T12.ob hN.1) (T12.ob a4) ?_
        refine hQ m12 rb ra T12 (B11.to t12 (by unfold fdF; omega) (by unfold fdF; omega) (by unfold fdF; omega) (by unfold fdF; omega) (by unfold fdF; omega)) ?_
        have z2 : iF m12 c 2 = iF m' c 2 := by rw [t12.nf (by unfold fdF; omega), T11.nf (by omega)]
        rcases fz with ⟨f1', f2'⟩ | ⟨f1', f2', f3'⟩
        · rw [cif_t f2']
          show iF m12 c 2 = 1
          rw [z2]; exact f1'
        · rw [f2'] at g1 g2 g3
          rw [cif_f f3']
          exact ⟨by rw [z2]; exact f1', g1, g2, g3⟩
      have rowN : ∀ (A : fwS), (∀ j, j < A.1 → rowOk W (dF pl tk pt) (A.2 j)) → ∀ r, r < A.1 → ∀ k, k < W → A.2 r k < 2 ^ 31 := fun A h r hr k _ => by have := (h r hr).2.1 k; omega
      -- pairs
      have loopA : ∀ a, a ≤ S.1 → ∀ (x7 : Option Value) (m' : mMem), mTo (fun k => k = rb ∨ k = 64 * c + 7) (fun k f => k = c ∧ f = 2) m1 m' → iF m' c 2 = 0 → (∀ a' b, a' < a → b < S.1 → isP W (dF pl tk pt) S e a' b → ¬ gtR W E (dF pl tk pt) (jn W (dF pl tk pt) S e a' b)) → fcR m' rb W (fA W (dF pl tk pt) S e a) → mEs (d - 1) 82 c g82 (116, [some (.ref c), some (.ref n), some (.int (nI e)), some (.int (nI (cct (fun r => 0 < chI W (dF pl tk pt) (S.2 r) e) S.1))), some (.int (nI (cct (fun r => chI W (dF pl tk pt) (S.2 r) e < 0) S.1))), some (.int (nI (fA W (dF pl tk pt) S e a).1)), some (.int (nI a)), x7], [], m') Q := by
        refine upto ?_ ?_
        · intro x7 m' t' z2 ng RA
          obtain ⟨k1, k2, k3, k4, k5, k6⟩ := keep m' t'
          have hrA := fA_all (W := W) (D := dF pl tk pt) (S := S) (e := e) (X := rowOk W (dF pl tk pt)) hrow S.1 (Nat.le_refl _) (fun a b ha hb hp => jn_ok hE2 (hrow a ha) (hrow b hb) hp (ng a b ha hb hp))
          refine bk82_116 k6.wt k1.1 k5.1 ?_
          rw [k2, nIle (by omega) (by omega)]
          refine ⟨fun _ => fin (fA W (dF pl tk pt) S e S.1) m' 0 x7 t' c3 RA (rowN _ hrA) (Or.inr ⟨z2, rfl, fun z => z.elim (by omega) (fun ⟨a, b, g1, g2, g3, g4⟩ => ng a b g1 g2 g3 g4)⟩), fun c => absurd (Nat.le_refl _) c⟩
        · intro a ha ih x7 m' t' z2 ng RA
          obtain ⟨k1, k2, k3, k4, k5, k6⟩ := keep m' t'
          have hma := fA_mono (W := W) (D := dF pl tk pt) (S := S) (e := e) (show a ≤ S.1 by omega)
          have hma1 := fA_mono (W := W) (D := dF pl tk pt) (S := S) (e := e) (show a + 1 ≤ S.1 by omega)
          have eA : fA W (dF pl tk pt) S e (a + 1) = fB W (dF pl tk pt) S e a (fA W (dF pl tk pt) S e a) S.1 := rfl
          refine bk82_116 k6.wt k1.1 k5.1 ?_
          rw [k2, nIle (by omega) (by omega)]
          refine ⟨fun c => by omega, fun _ => ⟨fun c => absurd z2 c, fun _ => ?_⟩⟩
          -- too far: out of both loops
          have out : ∀ (A : fwS) (m' : mMem) (x6 : Nat) (x7 : Int32), mTo (fun k => k = rb ∨ k = 64 * c + 7) (fun k f => k = c ∧ f = 2) m1 m' → A.1 ≤ 300 → x6 < S.1 → fcR m' rb W A → (∀ r, r < A.1 → ∀ k, k < W → A.2 r k < 2 ^ 31) → iF m' c 2 = 1 → farS W E (dF pl tk pt) S e → mEs (d - 1) 82 c g82 (135, [some (.ref c), some (.ref n), some (.int (nI e)), some (.int (nI (cct (fun r => 0 < chI W (dF pl tk pt) (S.2 r) e) S.1))), some (.int (nI (cct (fun r => chI W (dF pl tk pt) (S.2 r) e < 0) S.1))), some (.int (nI A.1)), some (.int (nI x6)), some (.int x7)], [], m') Q := by
            intro A m' x6 x7 t' hA hx6 RA hv z2 hf
            obtain ⟨k1, k2, k3, k4, k5, k6⟩ := keep m' t'
            have nz : ¬ iF m' c 2 = 0 := by rw [z2]; decide
            have two : ∀ x7 : Int32, mEs (d - 1) 82 c g82 (116, [some (.ref c), some (.ref n), some (.int (nI e)), some (.int (nI (cct (fun r => 0 < chI W (dF pl tk pt) (S.2 r) e) S.1))), some (.int (nI (cct (fun r => chI W (dF pl tk pt) (S.2 r) e < 0) S.1))), some (.int (nI A.1)), some (.int (nI x6 + 1)), some (.int x7)], [], m') Q := by
              intro x7
              have q := fin A m' 0 (some (.int x7)) t' hA RA hv (Or.inl ⟨z2, hf⟩)
              exact bk82_116 k6.wt k1.1 k5.1 ⟨fun _ => q, fun _ => ⟨fun _ => q, fun c => absurd nz c⟩⟩
            refine bk82_135 k6.wt k1.1 k5.1 ⟨fun _ => ?_, fun _ => ⟨fun _ => ?_, fun c => absurd nz c⟩⟩
            · rintro v rfl; exact two _
            · rintro v rfl; exact two _
          have loopB : ∀ b, b ≤ S.1 → ∀ (m' : mMem), mTo (fun k => k = rb ∨ k = 64 * c + 7) (fun k f => k = c ∧ f = 2) m1 m' → iF m' c 2 = 0 → (∀ b', b' < b → isP W (dF pl tk pt) S e a b' → ¬ gtR W E (dF pl tk pt) (jn W (dF pl tk pt) S e a b')) → fcR m' rb W (fB W (dF pl tk pt) S e a (fA W (dF pl tk pt) S e a) b) → mEs (d - 1) 82 c g82 (135, [some (.ref c), some (.ref n), some (.int (nI e)), some (.int (nI (cct (fun r => 0 < chI W (dF pl tk pt) (S.2 r) e) S.1))), some (.int (nI (cct (fun r => chI W (dF pl tk pt) (S.2 r) e < 0) S.1))), some (.int (nI (fB W (dF pl tk pt) S e a (fA W (dF pl tk pt) S e a) b).1)), some (.int (nI a)), some (.int (nI b))], [], m') Q := by
            refine upto ?_ ?_
            · intro m' t' z2 ngb RB
              obtain ⟨k1, k2, k3, k4, k5, k6⟩ := keep m' t'
              refine bk82_135 k6.wt k1.1 k5.1 ?_
              rw [k2, nIle (by omega) (by omega), nIinc]
              refine ⟨fun _ => ?_, fun c => absurd (Nat.le_refl _) c⟩
              rintro v rfl
              rw [← eA] at RB ⊢
              refine ih _ m' t' z2 (fun a' b ha' hb hp => ?_) RB
              by_cases q : a' = a
              · subst q; exact ngb b hb hp
              · exact ng a' b (by omega) hb hp
            · intro b hb ihb m' t' z2 ngb RB
              obtain ⟨k1, k2, k3, k4, k5, k6⟩ := keep m' t'
              have hmb := fB_mono (W := W) (D := dF pl tk pt) (S := S) (e := e) (A := fA W (dF pl tk pt) S e a) (a := a) (show b ≤ S.1 by omega)
              have hmb1 := fB_mono (W := W) (D := dF pl tk pt) (S := S) (e := e) (A := fA W (dF pl tk pt) S e a) (a := a) (show b + 1 ≤ S.1 by omega)
              rw [← eA] at hmb hmb1
              have skip : ¬ isP W (dF pl tk pt) S e a b → mEs (d - 1) 82 c g82 (135, [some (.ref c), some (.ref n), some (.int (nI e)), some (.int (nI (cct (fun r => 0 < chI W (dF pl tk pt) (S.2 r) e) S.1))), some (.int (nI (cct (fun r => chI W (dF pl tk pt) (S.2 r) e < 0) S.1))), some (.int (nI (fB W (dF pl tk pt) S e a (fA W (dF pl tk pt) S e a) b).1)), some (.int (nI a)), some (.int (nI (b + 1)))], [], m') Q := by
                intro hn
                have ed : fB W (dF pl tk pt) S e a (fA W (dF pl tk pt) S e a) (b + 1) = fB W (dF pl tk pt) S e a (fA W (dF pl tk pt) S e a) b := cif_f hn
                rw [ed] at ihb
                refine ihb m' t' z2 (fun b' hb' hp => ?_) RB
                by_cases q : b' = b
                · subst q; exact absurd hp hn
                · exact ngb b' (by omega) hp
              refine bk82_135 k6.wt k1.1 k5.1 ?_
              rw [k2, nIle (by omega) (by omega), nI_clamp (by omega), nI_clamp (by omega), k4 a ha, k4 b hb, iI_le0 (hcl a ha), iI_ge0 (hcl b hb), nIinc, nIinc]
              refine ⟨fun c => by omega, fun _ => ⟨fun c => absurd z2 c, fun _ => ⟨(nIin_iff (by omega)).mpr (by omega), fun ca => ?_, fun ca => ⟨(nIin_iff (by omega)).mpr (by omega), fun cb => ?_, fun cb => ?_⟩⟩⟩⟩
              · rintro v rfl
                exact skip (fun z => by have := z.1; omega)
              · rintro v rfl
                exact skip (fun z => by have := z.2; omega)
              · have hp : isP W (dF pl tk pt) S e a b := ⟨by omega, by omega⟩
                have ed : fB W (dF pl tk pt) S e a (fA W (dF pl tk pt) S e a) (b + 1) = fAp (fB W (dF pl tk pt) S e a (fA W (dF pl tk pt) S e a) b) (jn W (dF pl tk pt) S e a b) := cif_t hp
                have hM1 : (fB W (dF pl tk pt) S e a (fA W (dF pl tk pt) S e a) b).1 < 300 := by
                  rw [ed] at hmb1
                  have : (fB W (dF pl tk pt) S e a (fA W (dF pl tk pt) S e a) b).1 + 1 ≤ (fA W (dF pl tk pt) S e (a + 1)).1 := hmb1
                  omega
                have hrB : ∀ j, j < (fB W (dF pl tk pt) S e a (fA W (dF pl tk pt) S e a) b).1 → rowOk W (dF pl tk pt) ((fB W (dF pl tk pt) S e a (fA W (dF pl tk pt) S e a) b).2 j) := fB_all (X := rowOk W (dF pl tk pt)) (fA_all (W := W) (D := dF pl tk pt) (S := S) (e := e) (X := rowOk W (dF pl tk pt)) hrow a (by omega) (fun a' b ha' hb hp => jn_ok hE2 (hrow a' (by omega)) (hrow b hb) hp (ng a' b ha' hb hp))) b (fun b' hb' hp => jn_ok hE2 (hrow a ha) (hrow b' (by omega)) hp (ngb b' hb' hp))
                rw [ed] at ihb
                generalize fB W (dF pl tk pt) S e a (fA W (dF pl tk pt) S e a) b = A at *
                refine ev_join (M := A.1) (by omega) k6.wt k1 hW hS k3 k4 ha hb hp hM1 ?_
                intro m3 t3 j1 j2
                have t3' : mTo (fun k => k = rb ∨ k = 64 * c + 7) (fun k f => k = c ∧ f = 2) m1 m3 := t'.tr (t3.mono (fun _ h => h) (fun _ _ h => h.elim))
                obtain ⟨q1, q2, q3, q4, q5, q6⟩ := keep m3 t3'
                refine bk82_181 q6.wt q1.1 q5.1 ?_
                refine ev_tooGreat (row := jn W (dF pl tk pt) S e a b) (by omega) q6.wt q1 hW hE q5 hk hM1 j2 ?_
                refine bk82_189 q6.wt q1.1 q5.1 q1.1 ⟨bz_01 _, fun m4 em4 => ?_⟩
                obtain ⟨t4, f2⟩ := sF1 em4 q6.wt q1.1 (by decide)
                have t4' : mTo (fun k => k = rb ∨ k = 64 * c + 7) (fun k f => k = c ∧ f = 2) m1 m4 := t3'.tr (t4.mono (fun _ h => h.elim) (fun _ _ h => h))
                rintro v rfl v2 rfl
                rw [nIinc, nIinc]
                by_cases g : gtR W E (dF pl tk pt) (jn W (dF pl tk pt) S e a b)
                · rw [bz_t g] at f2
                  refine out (fAp A (fun k => cap (jn W (dF pl tk pt) S e a b k))) m4 a _ t4' (by show A.1 + 1 ≤ 300; omega) ha (fun j hj k hk' => ?_) (fun j hj k hk' => ?_) f2 (Or.inr ⟨a, b, ha, hb, hp, g⟩)
                  · have hj' : j < A.1 + 1 := hj
                    show _ = nI ((if j = A.1 then fun k => cap (jn W (dF pl tk pt) S e a b k) else A.2 j) k)
                    rw [t4.i id]
                    by_cases q : j = A.1
                    · rw [if_pos q, q]; exact j2 k hk'
                    · rw [if_neg q, j1 _ (by omega)]; exact RB j (by omega) k hk'
                  · have hj' : j < A.1 + 1 := hj
                    show (if j = A.1 then fun k => cap (jn W (dF pl tk pt) S e a b k) else A.2 j) k < 2 ^ 31
                    by_cases q : j = A.1
                    · rw [if_pos q]
                      have := cap_le (v := jn W (dF pl tk pt) S e a b k)
                      show cap _ < _
                      omega
                    · rw [if_neg q]; have := (hrB j (by omega)).2.1 k; omega
                · rw [bz_f g] at f2
                  refine ihb m4 t4' f2 (fun b' hb' hp' => ?_) (fun j hj k hk' => ?_)
                  · by_cases q : b' = b
                    · subst q; exact g
                    · exact ngb b' (by omega) hp'
                  · have hj' : j < A.1 + 1 := hj
                    show _ = nI ((if j = A.1 then jn W (dF pl tk pt) S e a b else A.2 j) k)
                    rw [t4.i id]
                    by_cases q : j = A.1
                    · rw [if_pos q, q, j2 k hk']
                      unfold cap
                      rw [if_neg (fun z => g (Or.inl ⟨k, hk', by omega⟩))]
                    · rw [if_neg q, j1 _ (by omega)]; exact RB j (by omega) k hk'
          exact loopB 0 (Nat.zero_le _) m' t' z2 (fun b' hb' => absurd hb' (Nat.not_lt_zero _)) RA
      exact loopA 0 (Nat.zero_le _) _ m2 (t2.mono (fun _ h => Or.inl h) (fun _ _ h => h.elim)) (by rw [t2.nf id]; exact e2) (fun a' b ha' => absurd ha' (Nat.not_lt_zero _)) R2
    · intro m2 em2
      obtain ⟨t2, f2⟩ := sF1 em2 T1.wt (T1.ob a1) (by decide)
      have T2 : mTo (fsA c) (fsF c) m m2 := (T1.mono (fun k h => by unfold fsA; omega) (fun _ _ h => h.elim)).tr (t2.mono (fun _ h => h.elim) (fun k f h => ⟨h.1, by omega⟩))
      refine hQ m2 ra rb T2 (B1.to t2 (by omega) (by omega) (by omega) (by omega) (by omega)) ?_
      rw [cif_t (C := farS W E (dF pl tk pt) S e) (Or.inl (by omega))]
      exact f2
  · intro r hr ih x6 x7 m' T' hC
    have hc := hcl r hr
    have B' := hB.to T' id id id id id
    refine bk82_8 T'.wt (T'.ob a1) (T'.ob hN.1) ?_
    rw [T'.nf id, h1, nIle (by omega) (by omega)]
    refine ⟨fun c => by omega, fun _ => ⟨ra, 3000, B'.2.1, B'.2.2.2.1, ?_⟩⟩
    refine ev_changeOf (row := S.2 r) (by omega) T'.wt B' hW (hN.to T' (by omega) (by omega) (by omega) id id) hk B'.2.2.2.1 (by omega) (by omega) (by rw [T'.i (by omega)]; exact hR r hr) (fun k _ => by have := (hrow r hr).2.1 k; omega) ?_
    refine bk82_35 T'.wt (T'.ob a1) (T'.ob hN.1) (ly0 := 300) (T'.wt.arr (T'.ob a1) 0 rfl (by decide)) ⟨(nIin_iff (by omega)).mpr (by omega), fun m2 em2 => ?_⟩
    rw [nI_clamp (by omega), n_L (by omega) (by omega)] at em2
    obtain ⟨t2, b3⟩ := sI1 em2 T'.wt
    have e3 : m2.2.2.1 (64 * c + 3) r = iI (chI W (dF pl tk pt) (S.2 r) e) := by rw [b3, up_s]
    rw [nI_clamp (by omega), e3, iI_le0 hc, iI_ge0 hc, nIinc, nIinc, nIinc, Int32.add_zero, Int32.add_zero]
    have hin : mIn (nI r) 300 = true := (nIin_iff (by omega)).mpr (by omega)
    have nxt : ∀ x6 x7 : Option Value, mEs (d - 1) 82 c g82 (8, [some (.ref c), some (.ref n), some (.int (nI e)), some (.int (nI (cct (fun r => 0 < chI W (dF pl tk pt) (S.2 r) e) (r + 1)))), some (.int (nI (cct (fun r => chI W (dF pl tk pt) (S.2 r) e < 0) (r + 1)))), some (.int (nI (r + 1))), x6, x7], [], m2) Q := by
      intro x6 x7
      refine ih _ _ m2 (T'.tr t2) (fun q hq => ?_)
      by_cases e : q = r
      · subst e; exact e3
      · rw [b3, up_n e]; exact hC q (by omega)
    refine ⟨hin, fun c1 => ?_, fun c1 => ?_⟩
    · rw [cct_f (C := fun r => 0 < chI W (dF pl tk pt) (S.2 r) e) (by omega)] at nxt
      rintro v rfl
      refine ⟨hin, fun c2 => ?_, fun c2 => ?_⟩
      · rintro v rfl v2 rfl
        rw [cct_f (C := fun r => chI W (dF pl tk pt) (S.2 r) e < 0) (by omega)] at nxt
        exact nxt _ _
      · rintro v rfl v2 rfl
        rw [cct_t (C := fun r => chI W (dF pl tk pt) (S.2 r) e < 0) (by omega)] at nxt
        exact nxt _ _
    · rw [cct_t (C := fun r => 0 < chI W (dF pl tk pt) (S.2 r) e) (by omega)] at nxt
      rintro v rfl
      refine ⟨hin, fun c2 => ?_, fun c2 => ?_⟩
      · rintro v rfl v2 rfl
        rw [cct_f (C := fun r => chI W (dF pl tk pt) (S.2 r) e < 0) (by omega)] at nxt
        exact nxt _ _
      · omega
end CFW2
