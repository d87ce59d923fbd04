/-! The model's unfolding: what a transition wants; whether a condition can be chosen. -/
def lwA (o k : Nat) : Prop := k = 64 * o + 38
def lwF (o k f : Nat) : Prop := k = o ∧ f = 60
def mCh (P : Nat) (tk pt : Nat → Nat → Nat) (mk : Nat → Nat) (U : uS) (t : Nat) (C : Nat → Nat) (k c : Nat) : Prop := uPl U c = wnt (tk t) P k ∧ uFre P tk pt mk U c ∧ (k = 0 ∨ wnt (tk t) P (k - 1) ≠ wnt (tk t) P k ∨ C (k - 1) < c) ∧ ∀ i, i < k → uCo (tnS P tk) U (C i) c
section MUN2
variable {P T d o t k c : Nat} {tk pt : Nat → Nat → Nat} {mk : Nat → Nat} {C : Nat → Nat} {U : uS} {m : mMem} {Q : Option Value → mMem → Prop}
theorem ev_layWants (hd : 2 ≤ d) (hT : mWT m) (hO : m.1 o = some (.inr 8) ∧ o ≠ 0) (hN : mNet m o P T tk pt) (hP : P ≤ 10) (ht : t < 10) (h3 : tnS P tk t ≤ 3)
    (hQ : ∀ m', mTo (lwA o) (lwF o) m m' → iF m' o 60 = nI (tnS P tk t) → (∀ i, i < tnS P tk t → m'.2.2.1 (64 * o + 38) i = nI (wnt (tk t) P i)) → Q none m') : mEv d 227 [.ref o, .int (nI t)] m Q := by
  refine mEv.at (by omega) G227 (Nat.le_of_ble_eq_true rfl) ?_
  refine bk227_0 hT hO ?_
  rintro m1 rfl
  have T0 : mTo (lwA o) (lwF o) m (mSetF m o 60 (.int 0)) := (mTo.rf hT).sF hO ⟨rfl, rfl⟩ (by decide)
  have frm : ∀ {m1}, mTo (lwA o) (lwF o) m m1 → mNet m1 o P T tk pt := fun T1 => hN.to T1 (fun z => by unfold lwA at z; omega) (fun z => by unfold lwA at z; omega) (fun z => by unfold lwF at z; omega) (fun z => by unfold lwF at z; omega)
  have main : ∀ n p m1 (x3 : Option Value), n + p = P → mTo (lwA o) (lwF o) m m1 → iF m1 o 60 = nI (fb_sm (tk t) p) → (∀ i, i < fb_sm (tk t) p → m1.2.2.1 (64 * o + 38) i = nI (wnt (tk t) p i)) → mEs (d - 1) 227 o g227 (7, [some (.ref o), some (.int (nI t)), some (.int (nI p)), x3], [], m1) Q := by
    intro n
    induction n with
    | zero =>
      intro p m1 x3 hp T1 z1 z2
      obtain rfl : p = P := by omega
      refine bk227_7 T1.wt (T1.ob hO) ?_
      rw [(frm T1).1]
      exact ⟨fun _ => hQ m1 T1 z1 z2, fun z => absurd ((nIle (by omega) (by omega)).mpr (Nat.le_refl _)) z⟩
    | succ n ih =>
      intro p m1 x3 hp T1 z1 z2
      refine bk227_7 T1.wt (T1.ob hO) ?_
      rw [(frm T1).1, nIle (by omega) (by omega)]
      refine ⟨fun z => by omega, fun _ => ?_⟩
      have hs : fb_sm (tk t) p + tk t p ≤ 3 := by
        have := fb_sm_part (tk t) (show p < P by omega)
        unfold tnS at h3
        omega
      have inn : ∀ n2 k m2, n2 + k = tk t p → mTo (lwA o) (lwF o) m m2 → iF m2 o 60 = nI (fb_sm (tk t) p + k) → (∀ i, i < fb_sm (tk t) p + k → m2.2.2.1 (64 * o + 38) i = nI (wnt (tk t) (p + 1) i)) → mEs (d - 1) 227 o g227 (17, [some (.ref o), some (.int (nI t)), some (.int (nI p)), some (.int (nI k))], [], m2) Q := by
        intro n2
        induction n2 with
        | zero =>
          intro k m2 hk T2 y1 y2
          refine bk227_17 T2.wt (T2.ob hO) ?_
          refine ev_tkM (by omega) T2.wt (T2.ob hO) (frm T2) ht (by omega) ?_
          refine bk227_24 T2.wt (T2.ob hO) ?_
          rw [nIle (by omega) (by omega)]
          refine ⟨fun _ => ?_, fun z => absurd (show tk t p ≤ k by omega) z⟩
          rintro v rfl
          rw [nIinc]
          refine ih (p + 1) m2 _ (by omega) T2 ?_ ?_
          · rw [y1, fb_sm_succ, show k = tk t p by omega]
          · rw [fb_sm_succ, ← show k = tk t p by omega]; exact y2
        | succ n2 ih2 =>
          intro k m2 hk T2 y1 y2
          refine bk227_17 T2.wt (T2.ob hO) ?_
          refine ev_tkM (by omega) T2.wt (T2.ob hO) (frm T2) ht (by omega) ?_
          refine bk227_24 T2.wt (T2.ob hO) ?_
          rw [nIle (by omega) (by omega), y1, nI_clamp (by omega)]
          refine ⟨fun z => by omega, fun _ => ⟨(nIin_iff (by omega)).mpr (by omega), ?_⟩⟩
          rintro m3 rfl m4 rfl v rfl
          rw [iF_I, y1, nIinc, nIinc]
          refine ih2 (k + 1) _ (by omega) ((T2.sI rfl).sF hO ⟨rfl, rfl⟩ (by decide)) ?_ ?_
          · rw [iF_s, Nat.add_assoc]
          · intro i hi
            rw [rI_F, rdI_same]
            by_cases w : i = fb_sm (tk t) p + k
            · rw [w, up_s]
              show nI p = nI (if fb_sm (tk t) p + k < fb_sm (tk t) p then _ else p)
              rw [if_neg (by omega)]
            · rw [up_n w]; exact y2 i (by omega)
      refine inn (tk t p) 0 m1 (by omega) T1 (by rw [z1]; rfl) (fun i hi => ?_)
      rw [z2 i (by omega)]
      show _ = nI (if i < fb_sm (tk t) p then wnt (tk t) p i else p)
      rw [if_pos (by omega)]
  exact main P 0 _ _ (by omega) T0 iF_s (fun i hi => absurd hi (Nat.not_lt_zero _))
theorem ev_canChoose (hd : 3 ≤ d) (hT : mWT m) (hO : m.1 o = some (.inr 8) ∧ o ≠ 0) (hG : uGd P T tk U) (hE : meR P tk pt mk m o U) (hC : mcR (tnS P tk) m o U) (hP : P ≤ 10) (h3 : tnS P tk t ≤ 3) (hw : ∀ i, i < tnS P tk t → m.2.2.1 (64 * o + 38) i = nI (wnt (tk t) P i)) (hk : k < tnS P tk t) (hc : c < uC U) (hch : ∀ i, i < k → m.2.2.1 (64 * o + 39) i = nI (C i) ∧ C i < uC U)
    (hQ : Q (some (.int (bz (mCh P tk pt mk U t C k c)))) m) : mEv d 228 [.ref o, .int (nI k), .int (nI c)] m Q := by
  have h80 := hG.2.2.1
  have h30 := hG.2.1
  have ho := hG.1.1 c hc
  have hpl := hG.2.2.2.1 c hc
  have hwl : ∀ i, i < tnS P tk t → wnt (tk t) P i < P := fun i hi => wnt_lt P hi
  have loop : ∀ n i (z : Int32), n + i = k → z = bz ((uPl U c = wnt (tk t) P k ∧ uFre P tk pt mk U c ∧ (k = 0 ∨ wnt (tk t) P (k - 1) ≠ wnt (tk t) P k ∨ C (k - 1) < c)) ∧ ∀ j, j < i → uCo (tnS P tk) U (C j) c) → mEs (d - 1) 228 o g228 (91, [some (.ref o), some (.int (nI k)), some (.int (nI c)), some (.int z), some (.int (nI i))], [], m) Q := by
    intro n
    induction n with
    | zero =>
      intro i z hi hz
      obtain rfl : i = k := by omega
      subst hz
      refine bk228_91 hT hO ⟨fun _ => ⟨bz_01 _, ?_⟩, fun q => absurd ((nIle (by omega) (by omega)).mpr (Nat.le_refl _)) q⟩
      rw [bz_cg (D := mCh P tk pt mk U t C i c) ⟨fun h => ⟨h.1.1, h.1.2.1, h.1.2.2, h.2⟩, fun h => ⟨⟨h.1, h.2.1, h.2.2.1⟩, h.2.2.2⟩⟩]
      exact hQ
    | succ n ih =>
      intro i z hi hz
      subst hz
      refine bk228_91 hT hO ?_
      rw [nIle (by omega) (by omega), bz_0, nI_clamp (by omega), (hch i (by omega)).1]
      refine ⟨fun q => by omega, fun _ => ⟨fun q => ⟨Or.inl q, ?_⟩, fun q => ⟨(nIin_iff (by omega)).mpr (by omega), ?_⟩⟩⟩
      · rw [bz_f q]
        rw [bz_f (fun h => q ⟨⟨h.1, h.2.1, h.2.2.1⟩, fun j hj => h.2.2.2 j (by omega)⟩)] at hQ
        exact hQ
      · have q := Classical.not_not.mp q
        refine ev_canHold (by omega) hT hO hG hE hC (hch i (by omega)).2 hc ?_
        refine bk228_113 hT hO ?_
        rintro v rfl
        rw [nIinc]
        refine ih (i + 1) _ (by omega) (bz_cg ⟨fun h => ⟨q.1, fun j hj => ?_⟩, fun h => h.2 i (by omega)⟩)
        by_cases w : j = i
        · rw [w]; exact h
        · exact q.2 j (by omega)
  have es : ∀ z : Int32, z = bz (uPl U c = wnt (tk t) P k ∧ uFre P tk pt mk U c ∧ (k = 0 ∨ wnt (tk t) P (k - 1) ≠ wnt (tk t) P k ∨ C (k - 1) < c)) → mEs (d - 1) 228 o g228 (91, [some (.ref o), some (.int (nI k)), some (.int (nI c)), some (.int z), some (.int 0)], [], m) Q := fun z hz => loop k 0 z (by omega) (hz.trans (bz_cg ⟨fun h => ⟨h, fun j hj => by omega⟩, fun h => h.1⟩))
  have k3 : mIn (nI k) 3 = true := (nIin_iff (by omega)).mpr (by omega)
  have c81 : mIn (nI c) 81 = true := (nIin_iff (by omega)).mpr (by omega)
  have tail : uPl U c = wnt (tk t) P k → uFre P tk pt mk U c → ((nI k = 0 → mEs (d - 1) 228 o g228 (91, [some (.ref o), some (.int (nI k)), some (.int (nI c)), some (.int 1), some (.int 0)], [], m) Q) ∧ (¬ nI k = 0 → (mIn (nI k - 1) 3 = true ∧ (mIn (nI k) 3 = true ∧ ((¬ m.2.2.1 (64 * o + 38) (nI k - 1).toNatClampNeg = nI (wnt (tk t) P k) → mEs (d - 1) 228 o g228 (91, [some (.ref o), some (.int (nI k)), some (.int (nI c)), some (.int 1), some (.int 0)], [], m) Q) ∧ (¬ ¬ m.2.2.1 (64 * o + 38) (nI k - 1).toNatClampNeg = nI (wnt (tk t) P k) → (mIn (nI k - 1) 3 = true ∧ ((nI c ≤ m.2.2.1 (64 * o + 39) (nI k - 1).toNatClampNeg → mEs (d - 1) 228 o g228 (91, [some (.ref o), some (.int (nI k)), some (.int (nI c)), some (.int 0), some (.int 0)], [], m) Q) ∧ (¬ nI c ≤ m.2.2.1 (64 * o + 39) (nI k - 1).toNatClampNeg → mEs (d - 1) 228 o g228 (91, [some (.ref o), some (.int (nI k)), some (.int (nI c)), some (.int 1), some (.int 0)], [], m) Q))))))))) := by
    intro f1 f2
    rw [nIeq0 (by omega)]
    refine ⟨fun q => es 1 (bz_t ⟨f1, f2, Or.inl q⟩).symm, fun q => ?_⟩
    have hw1 := hwl (k - 1) (by omega)
    have hw2 := hwl k hk
    have hc1 := hch (k - 1) (by omega)
    rw [nIdec (by omega), nI_clamp (by omega), hw (k - 1) (by omega), hc1.1, nIeq (by omega) (by omega), nIle (by omega) (by omega)]
    have k31 : mIn (nI (k - 1)) 3 = true := (nIin_iff (by omega)).mpr (by omega)
    refine ⟨k31, k3, fun y => es 1 (bz_t ⟨f1, f2, Or.inr (Or.inl y)⟩).symm, fun y => ⟨k31, fun w => es 0 (bz_f (fun h => ?_)).symm, fun w => es 1 (bz_t ⟨f1, f2, Or.inr (Or.inr (by omega))⟩).symm⟩⟩
    rcases h.2.2 with h | h | h
    · omega
    · exact y h
    · omega
  refine mEv.at (by omega) G228 (Nat.le_of_ble_eq_true rfl) ?_
  refine bk228_0 hT hO ?_
  rw [nI_clamp (n := c) (by omega), nI_clamp (n := k) (by omega), (hC.2 c hc).1, (hC.2 c hc).2.1, hw k hk]
  have hw2 := hwl k hk
  refine ⟨c81, k3, fun q => es 0 (bz_f (fun h => q (by rw [h.1]))).symm, fun q => ⟨c81, fun y => ?_, fun y => ⟨c81, ?_⟩⟩⟩
  · have f1 : uPl U c = wnt (tk t) P k := (nIeq (by omega) (by omega)).mp (Classical.not_not.mp q)
    have o0 : uOr U c = 0 := by
      refine Classical.byContradiction fun w => neg1_ne (show uOr U c - 1 < 2 ^ 31 by omega) ?_
      have e1 : ogV (uOr U c) = nI (uOr U c - 1) := if_neg w
      rw [← e1]; exact y
    exact tail f1 (Or.inl o0)
  · have f1 : uPl U c = wnt (tk t) P k := (nIeq (by omega) (by omega)).mp (Classical.not_not.mp q)
    have o0 : uOr U c ≠ 0 := fun w => y (by rw [w]; rfl)
    have e1 : ogV (uOr U c) = nI (uOr U c - 1) := if_neg o0
    rw [e1, nI_clamp (n := uOr U c - 1) (by omega), (hE.2 (uOr U c - 1) (by omega)).2.2.1, bz_0]
    refine ⟨(nIin_iff (by omega)).mpr (by omega), fun w => es 0 (bz_f (fun h => ?_)).symm, fun w => tail f1 (Or.inr (Classical.not_not.mp w))⟩
    rcases h.2.1 with h | h
    · exact o0 h
    · exact w h
end MUN2
