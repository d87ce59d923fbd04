/-! The class Unfolding: what it asks. -/
theorem sbit {x f : Nat} (hf : f < 32) : ((nI x >>> (nI f &&& 31)) &&& 1) = 1 ↔ x.testBit f = true := by
  rw [anb1, b_sshr f hf _ (by decide), if_pos (by omega), bt_nI (by omega), Nat.add_zero]
section CUN3
variable {tn : Nat → Nat} {P T d c n e k dep : Nat} {tk pt : Nat → Nat → Nat} {fi mk : Nat → Nat} {U : uS} {A ms : Nat → Nat} {m : mMem} {Q : Option Value → mMem → Prop}
theorem ev_upast (hd : 1 ≤ d) (hT : mWT m) (hO : m.1 c = some (.inr 7) ∧ c ≠ 0) (hk : k < uC U) (hC : uC U ≤ 80) (hE : uE U ≤ 30) (ho : uOr U k ≤ uE U) (hog : m.2.2.1 (64 * c + 8) k = ogV (uOr U k)) (hpa : ∀ e, e < uE U → m.2.2.1 (64 * c + 3) e = nI (uPa U e)) (hQ : Q (some (.int (nI (uPo U k)))) m) : mEv d 137 [.ref c, .int (nI k)] m Q := by
  refine mEv.at (by omega) G137 (Nat.le_of_ble_eq_true rfl) ?_
  refine bk137_0 hT hO ?_
  rw [nI_clamp (by omega), hog]
  unfold uPo at hQ
  refine ⟨(nIin_iff (by omega)).mpr (by omega), fun z => ⟨(nIin_iff (by omega)).mpr (by omega), ?_⟩, fun z => ?_⟩
  · have q : uOr U k ≠ 0 := fun q => z (by rw [q]; rfl)
    have e1 : ogV (uOr U k) = nI (uOr U k - 1) := if_neg q
    rw [if_neg q] at hQ
    rw [e1, nI_clamp (by omega), hpa _ (by omega)]
    exact ⟨(nIin_iff (by omega)).mpr (by omega), hQ⟩
  · have q : uOr U k = 0 := by
      refine Classical.byContradiction fun q => z ?_
      have e1 : ogV (uOr U k) = nI (uOr U k - 1) := if_neg q
      rw [e1]; exact neg1_ne (by omega)
    rw [if_pos q] at hQ
    exact hQ
theorem ev_tg {a b : Nat} (hd : 1 ≤ d) (hT : mWT m) (hO : m.1 c = some (.inr 7) ∧ c ≠ 0) (ha : a < 80) (hb : b < 96) (hQ : Q (some (.int (bz (tg (m.2.2.1 (64 * c + 9)) a b)))) m) : mEv d 139 [.ref c, .int (nI a), .int (nI b)] m Q := by
  refine mEv.at (by omega) G139 (Nat.le_of_ble_eq_true rfl) ?_
  refine bk139_0 hT hO ?_
  have e : tg (m.2.2.1 (64 * c + 9)) a b ↔ (((((m.2.2.1 (64 * c + 9) (a * 3 + b / 32)).toUInt32 >>> ((nI (b % 32)).toUInt32 &&& Int32.toUInt32 31)).toInt32) &&& 1) = 1) := (rdb (by omega)).symm
  simp (disch := omega) only [l3, shr5, and31, nI_mul, nI_add, nI_clamp, nIin_iff, ← e]
  refine ⟨by omega, fun z => ?_, fun z => ?_⟩
  · rw [bz_f z] at hQ; exact hQ
  · rw [bz_t (Classical.not_not.mp z)] at hQ; exact hQ
theorem ev_isFit (hd : 2 ≤ d) (hT : mWT m) (hO : m.1 c = some (.inr 7) ∧ c ≠ 0) (hk : k < uC U) (hC : uC U ≤ 80) (hE : uE U ≤ 30) (ho : uOr U k ≤ uE U) (hpl : m.2.2.1 (64 * c + 7) k = nI (uPl U k)) (hpl2 : uPl U k < 10) (hog : m.2.2.1 (64 * c + 8) k = ogV (uOr U k)) (hcu : ∀ e, e < uE U → m.2.2.1 (64 * c + 4) e = bz (uCu P tk pt mk U e)) (hms : ∀ p, p < 10 → m.2.2.1 (64 * c + 11) p = nI (ms p)) (hms2 : ∀ p, ms p ≤ 9) (hdep : dep ≤ 3) (hpk : ∀ i, i < dep → m.2.2.1 (64 * c + 12) i = nI (A i) ∧ A i < uC U) (htg : ∀ x y, x < uC U → y < 96 → (tg (m.2.2.1 (64 * c + 9)) x y ↔ y < uC U ∧ uCo tn U x y))
    (hQ : Q (some (.int (bz (ms (uPl U k) ≠ 0 ∧ uFre P tk pt mk U k ∧ ∀ i, i < dep → uCo tn U (A i) k)))) m) : mEv d 138 [.ref c, .int (nI k), .int (nI dep)] m Q := by
  have hno : ¬ (ms (uPl U k) ≠ 0 ∧ uFre P tk pt mk U k ∧ ∀ i, i < dep → uCo tn U (A i) k) → Q (some (.int 0)) m := fun z => by rw [bz_f z] at hQ; exact hQ
  refine mEv.at (by omega) G138 (Nat.le_of_ble_eq_true rfl) ?_
  have main : ms (uPl U k) ≠ 0 → uFre P tk pt mk U k → ∀ j i, j + i = dep → (∀ u, u < i → uCo tn U (A u) k) → mEs (d - 1) 138 c g138 (42, [some (.ref c), some (.int (nI k)), some (.int (nI dep)), some (.int (nI i))], [], m) Q := by
    intro f1 f2 j
    induction j with
    | zero =>
      intro i hi h
      obtain rfl : i = dep := by omega
      rw [bz_t ⟨f1, f2, h⟩] at hQ
      exact bk138_42 hT hO ⟨fun _ => hQ, fun z => absurd ((nIle (by omega) (by omega)).mpr (Nat.le_refl _)) z⟩
    | succ j ih =>
      intro i hi h
      obtain ⟨p1, p2⟩ := hpk i (by omega)
      refine bk138_42 hT hO ?_
      rw [nIle (by omega) (by omega), nI_clamp (by omega), p1]
      refine ⟨fun z => by omega, fun _ => ⟨(nIin_iff (by omega)).mpr (by omega), ?_⟩⟩
      refine ev_tg (by omega) hT hO (by omega) (by omega) ?_
      refine bk138_58 hT hO ?_
      rw [bz_n0, htg (A i) k p2 (by omega)]
      refine ⟨fun z => ?_, fun z => hno (fun q => z ⟨hk, q.2.2 i (by omega)⟩)⟩
      rintro v rfl
      rw [nIinc]
      refine ih (i + 1) (by omega) (fun u hu => ?_)
      by_cases q : u = i
      · rw [q]; exact z.2
      · exact h u (by omega)
  refine bk138_0 hT hO ?_
  rw [nI_clamp (by omega), hpl, hog, nI_clamp (by omega), hms _ hpl2]
  have := hms2 (uPl U k)
  rw [nIeq0 (by omega)]
  refine ⟨(nIin_iff (by omega)).mpr (by omega), (nIin_iff (by omega)).mpr hpl2, fun z => hno (fun q => q.1 z), fun z => ⟨(nIin_iff (by omega)).mpr (by omega), fun z2 => ?_, fun z2 => ⟨(nIin_iff (by omega)).mpr (by omega), ?_⟩⟩⟩
  · have q : uOr U k = 0 := by
      refine Classical.byContradiction fun q => ?_
      have e1 : ogV (uOr U k) = nI (uOr U k - 1) := if_neg q
      rw [e1] at z2
      exact neg1_ne (by omega) z2
    exact main z (Or.inl q) dep 0 (by omega) (fun u hu => by omega)
  · have q : uOr U k ≠ 0 := fun q => z2 (by rw [q]; rfl)
    have e1 : ogV (uOr U k) = nI (uOr U k - 1) := if_neg q
    rw [e1, nI_clamp (by omega), hcu _ (by omega), bz_0]
    refine ⟨(nIin_iff (by omega)).mpr (by omega), fun w => main z (Or.inr w) dep 0 (by omega) (fun u hu => by omega), fun w => hno (fun q2 => ?_)⟩
    exact q2.2.1.elim (fun e => q e) (fun e => w e)
theorem ev_gather (hd : 2 ≤ d) (hT : mWT m) (hO : m.1 c = some (.inr 7) ∧ c ≠ 0) (hn : n ≤ 3) (hpk : ∀ i, i < n → m.2.2.1 (64 * c + 12) i = nI (A i) ∧ A i < 80)
    (hQ : ∀ m', mTo (fun j => j = 64 * c + 13) (fun _ _ => False) m m' → (∀ y, y < 96 → (bsd (m'.2.2.1 (64 * c + 13)) y ↔ ∀ i, i < n → tg (m.2.2.1 (64 * c + 9)) (A i) y)) → Q none m') : mEv d 136 [.ref c, .int (nI n)] m Q := by
  refine mEv.at (by omega) G136 (Nat.le_of_ble_eq_true rfl) ?_
  refine bk136_0 hT hO ?_
  refine ev_fill (by omega) hT (hT.arr hO 12 rfl (by decide)) (by decide) ?_
  have T1 : mTo (fun j => j = 64 * c + 13) (fun _ _ => False) m (mSetI m (64 * c + 13) (filled (m.2.2.1 (64 * c + 13)) 0 3 (-1))) := (mTo.rf hT).sI rfl
  refine bk136_8 T1.wt (T1.ob hO) ?_
  have main : ∀ j i m1 (x3 : Option Value), j + i = n → mTo (fun j => j = 64 * c + 13) (fun _ _ => False) m m1 → (∀ y, y < 96 → (bsd (m1.2.2.1 (64 * c + 13)) y ↔ ∀ u, u < i → tg (m.2.2.1 (64 * c + 9)) (A u) y)) → mEs (d - 1) 136 c g136 (10, [some (.ref c), some (.int (nI n)), some (.int (nI i)), x3], [], m1) Q := by
    intro j
    induction j with
    | zero =>
      intro i m1 x3 hi T' h
      obtain rfl : i = n := by omega
      exact bk136_10 T'.wt (T'.ob hO) ⟨fun _ => hQ m1 T' h, fun z => absurd ((nIle (by omega) (by omega)).mpr (Nat.le_refl _)) z⟩
    | succ j ih =>
      intro i m1 x3 hi T' h
      refine bk136_10 T'.wt (T'.ob hO) ⟨fun z => absurd ((nIle (by omega) (by omega)).mp z) (by omega), fun _ => ?_⟩
      obtain ⟨p1, p2⟩ := hpk i (by omega)
      have inn : ∀ w v m2, w + v = 3 → mTo (fun j => j = 64 * c + 13) (fun _ _ => False) m m2 → (∀ y, y < 96 → (bsd (m2.2.2.1 (64 * c + 13)) y ↔ (∀ u, u < i → tg (m.2.2.1 (64 * c + 9)) (A u) y) ∧ (y / 32 < v → tg (m.2.2.1 (64 * c + 9)) (A i) y))) → mEs (d - 1) 136 c g136 (17, [some (.ref c), some (.int (nI n)), some (.int (nI i)), some (.int (nI v))], [], m2) Q := by
        intro w
        induction w with
        | zero =>
          intro v m2 hv T2 h2
          obtain rfl : v = 3 := by omega
          refine bk136_17 T2.wt (T2.ob hO) ⟨fun _ => ?_, fun z => absurd (by decide) z⟩
          rintro v1 rfl
          rw [nIinc]
          refine ih (i + 1) m2 _ (by omega) T2 (fun y hy => ?_)
          rw [h2 y hy]
          constructor
          · rintro ⟨q1, q2⟩ u hu
            by_cases q : u = i
            · rw [q]; exact q2 (by omega)
            · exact q1 u (by omega)
          · intro q
            exact ⟨fun u hu => q u (by omega), fun _ => q i (by omega)⟩
        | succ w ihw =>
          intro v m2 hv T2 h2
          have e12 : m2.2.2.1 (64 * c + 12) i = nI (A i) := by rw [T2.i (by omega)]; exact p1
          have e9 : m2.2.2.1 (64 * c + 9) = m.2.2.1 (64 * c + 9) := T2.i (by omega)
          refine bk136_17 T2.wt (T2.ob hO) ?_
          simp (disch := omega) only [forall_eq, l3, nI_mul, nI_add, nI_clamp, nIle, nIin_iff, nIinc, e12, e9]
          refine ⟨fun z => by omega, fun _ => ⟨by omega, by omega, by omega, by omega, ?_⟩⟩
          refine ihw (v + 1) _ (by omega) (T2.sI rfl) (fun y hy => ?_)
          have hb := h2 y hy
          unfold bsd at hb ⊢
          rw [rdI_same]
          by_cases q : y / 32 = v
          · rw [q, up_s, b_and, Bool.and_eq_true]
            rw [q] at hb
            rw [hb]
            have et : bt (m.2.2.1 (64 * c + 9) (A i * 3 + v)) (y % 32) = true ↔ tg (m.2.2.1 (64 * c + 9)) (A i) y := by unfold tg; rw [q]
            rw [et]
            exact ⟨fun z => ⟨z.1.1, fun _ => z.2⟩, fun z => ⟨⟨z.1, fun w => by omega⟩, z.2 (by omega)⟩⟩
          · rw [up_n q, hb]
            exact and_congr Iff.rfl ⟨fun z w => z (by omega), fun z w => z (by omega)⟩
      refine inn 3 0 m1 (by omega) T' (fun y hy => ?_)
      rw [h y hy]
      exact ⟨fun z => ⟨z, fun w => by omega⟩, fun z => z.1⟩
  refine main n 0 _ _ (by omega) T1 (fun y hy => ?_)
  unfold bsd
  rw [rdI_same, show filled (m.2.2.1 (64 * c + 13)) 0 3 (-1) (y / 32) = -1 from if_pos ⟨Nat.zero_le _, by omega⟩]
  exact ⟨fun _ u hu => by omega, fun _ => b_m1 _ (by omega)⟩
end CUN3
