/-! The model's unfolding: conditions chosen are sorted, compared, looked for. -/
def srA (o k : Nat) : Prop := k = 64 * o + 41
def lexL (n : Nat) (A B : Nat → Nat) : Prop := ∃ i, i < n ∧ (∀ j, j < i → A j = B j) ∧ A i < B i
section MUN3
variable {P T d o t n : Nat} {tk pt : Nat → Nat → Nat} {mk : Nat → Nat} {A B C : Nat → Nat} {U : uS} {m : mMem} {Q : Option Value → mMem → Prop}
theorem ev_sortChosen (hd : 1 ≤ d) (hT : mWT m) (hO : m.1 o = some (.inr 8) ∧ o ≠ 0) (hn : n ≤ 3) (h60 : iF m o 60 = nI n) (hch : ∀ i, i < n → m.2.2.1 (64 * o + 39) i = nI (C i) ∧ C i < 81) (hne : ∀ i j, i < j → j < n → C i ≠ C j)
    (hQ : ∀ m' A, mTo (srA o) (fun _ _ => False) m m' → prm n A C → (∀ i j, i < j → j < n → A i < A j) → (∀ i, i < n → m'.2.2.1 (64 * o + 41) i = nI (A i)) → Q none m') : mEv d 232 [.ref o] m Q := by
  refine mEv.at (by omega) G232 (Nat.le_of_ble_eq_true rfl) ?_
  refine bk232_0 hT hO ?_
  have main : ∀ r i m1 (A : Nat → Nat) (x2 : Option Value), r + i = n → mTo (srA o) (fun _ _ => False) m m1 → prm i A C → (∀ a b, a < b → b < i → A a < A b) → (∀ j, j < i → m1.2.2.1 (64 * o + 41) j = nI (A j)) → mEs (d - 1) 232 o g232 (2, [some (.ref o), some (.int (nI i)), x2], [], m1) Q := by
    intro r
    induction r with
    | zero =>
      intro i m1 A x2 hi T1 p1 s1 z1
      obtain rfl : i = n := by omega
      refine bk232_2 T1.wt (T1.ob hO) ?_
      rw [T1.nf id, h60]
      exact ⟨fun _ => hQ m1 A T1 p1 s1 z1, fun z => absurd ((nIle (by omega) (by omega)).mpr (Nat.le_refl _)) z⟩
    | succ r ih =>
      intro i m1 A x2 hi T1 p1 s1 z1
      refine bk232_2 T1.wt (T1.ob hO) ?_
      rw [T1.nf id, h60, nIle (by omega) (by omega)]
      refine ⟨fun z => by omega, fun _ => ?_⟩
      obtain ⟨hc1, hc2⟩ := hch i (by omega)
      have aB : ∀ j, j < i → A j < 81 := fun j hj => by
        obtain ⟨k, hk, e⟩ := p1.mem hj
        rw [← e]; exact (hch k (by omega)).2
      have aN : ∀ j, j < i → A j ≠ C i := fun j hj e => by
        obtain ⟨k, hk, e2⟩ := p1.mem hj
        rw [← e2] at e
        exact hne k i hk (by omega) e
      -- the place is found
      have put : ∀ k m2, k ≤ i → mTo (srA o) (fun _ _ => False) m m2 → (∀ j, j < k → m2.2.2.1 (64 * o + 41) j = nI (A j)) → (∀ j, k < j → j ≤ i → m2.2.2.1 (64 * o + 41) j = nI (A (j - 1))) → (∀ j, k ≤ j → j < i → C i < A j) → (∀ j, j < k → A j < C i) → ∀ v x2, v = nI i + 1 → mEs (d - 1) 232 o g232 (2, [some (.ref o), some (.int v), x2], [], mSetI m2 (64 * o + 41) (upd (m2.2.2.1 (64 * o + 41)) k (nI (C i)))) Q := by
        intro k m2 hk T2 y1 y2 y3 y4 v x2 hv
        rw [hv, nIinc]
        refine ih (i + 1) _ (ins A k (C i)) x2 (by omega) (T2.sI rfl) (ins_prm p1 hk rfl) (ins_up (key := id) hk s1 y4 y3) (fun j hj => ?_)
        rw [rdI_same]
        rcases Nat.lt_trichotomy j k with g | g | g
        · rw [up_n (by omega), ins_lt g]; exact y1 j g
        · rw [g, up_s, ins_eq]
        · rw [up_n (by omega), ins_gt g]; exact y2 j g (by omega)
      have inn : ∀ k m2, k ≤ i → mTo (srA o) (fun _ _ => False) m m2 → (∀ j, j < k → m2.2.2.1 (64 * o + 41) j = nI (A j)) → (∀ j, k < j → j ≤ i → m2.2.2.1 (64 * o + 41) j = nI (A (j - 1))) → (∀ j, k ≤ j → j < i → C i < A j) → mEs (d - 1) 232 o g232 (12, [some (.ref o), some (.int (nI i)), some (.int (nI k))], [], m2) Q := by
        intro k
        induction k with
        | zero =>
          intro m2 hk T2 y1 y2 y3
          refine bk232_12 T2.wt (T2.ob hO) ?_
          rw [nI_clamp (n := i) (by omega), nI_clamp (n := 0) (by omega), T2.i (k := 64 * o + 39) (fun z => by unfold srA at z; omega), hc1]
          refine ⟨fun _ => ⟨(nIin_iff (by omega)).mpr (by omega), (nIin_iff (by omega)).mpr (by omega), ?_⟩, fun z => absurd ((nIle0 (by omega)).mpr rfl) z⟩
          rintro m3 rfl v hv
          exact put 0 m2 (by omega) T2 y1 y2 y3 (fun j hj => by omega) v _ hv
        | succ k ihk =>
          intro m2 hk T2 y1 y2 y3
          have a1 := aB k (by omega)
          have a2 := aN k (by omega)
          refine bk232_12 T2.wt (T2.ob hO) ?_
          rw [nIdec (show 0 < k + 1 by omega), show k + 1 - 1 = k by omega, nI_clamp (n := i) (by omega), nI_clamp (n := k + 1) (by omega), nI_clamp (n := k) (by omega), T2.i (k := 64 * o + 39) (fun z => by unfold srA at z; omega), hc1, y1 k (by omega), nIle (by omega) (by omega), nIle0 (by omega)]
          refine ⟨fun z => by omega, fun _ => ⟨(nIin_iff (by omega)).mpr (by omega), (nIin_iff (by omega)).mpr (by omega), fun z => ⟨(nIin_iff (by omega)).mpr (by omega), (nIin_iff (by omega)).mpr (by omega), ?_⟩, fun z => ⟨(nIin_iff (by omega)).mpr (by omega), (nIin_iff (by omega)).mpr (by omega), ?_⟩⟩⟩
          · rintro m3 rfl v hv
            refine put (k + 1) m2 hk T2 y1 y2 y3 (fun j hj => ?_) v _ hv
            by_cases w : j = k
            · rw [w]; omega
            · have := s1 j k (by omega) (by omega); omega
          · rintro m3 rfl v rfl
            rw [nIdec' (by omega), show k + 1 - 1 = k by omega]
            refine ihk _ (by omega) (T2.sI rfl) (fun j hj => ?_) (fun j h1 h2 => ?_) (fun j h1 h2 => ?_)
            · rw [rdI_same, up_n (by omega)]; exact y1 j (by omega)
            · rw [rdI_same]
              by_cases w : j = k + 1
              · rw [w, up_s]; rfl
              · rw [up_n w]; exact y2 j (by omega) h2
            · by_cases w : j = k
              · rw [w]; omega
              · exact y3 j (by omega) h2
      exact inn i m1 (Nat.le_refl _) T1 z1 (fun j h1 h2 => by omega) (fun j h1 h2 => by omega)
  exact main n 0 m C _ (by omega) (mTo.rf hT) prm.rf (fun a b _ hb => by omega) (fun j hj => by omega)
theorem ev_isLess (hd : 1 ≤ d) (hT : mWT m) (hO : m.1 o = some (.inr 8) ∧ o ≠ 0) (hn : n ≤ 3) (h60 : iF m o 60 = nI n) (hA : ∀ i, i < n → m.2.2.1 (64 * o + 41) i = nI (A i) ∧ A i < 128) (hB : ∀ i, i < n → m.2.2.1 (64 * o + 40) i = nI (B i) ∧ B i < 128) (hQ : Q (some (.int (bz (lexL n A B)))) m) : mEv d 233 [.ref o] m Q := by
  refine mEv.at (by omega) G233 (Nat.le_of_ble_eq_true rfl) ?_
  refine bk233_0 hT hO ?_
  have main : ∀ r i, r + i = n → (∀ j, j < i → A j = B j) → mEs (d - 1) 233 o g233 (2, [some (.ref o), some (.int (nI i))], [], m) Q := by
    intro r
    induction r with
    | zero =>
      intro i hi he
      obtain rfl : i = n := by omega
      refine bk233_2 hT hO ?_
      rw [h60, nIle (by omega) (by omega)]
      rw [bz_f (fun ⟨j, h1, _, h2⟩ => by have := he j h1; omega)] at hQ
      exact ⟨fun _ => ⟨fun _ => hQ, fun z => absurd (Nat.le_refl _) z⟩, fun z => absurd (Nat.le_refl _) z⟩
    | succ r ih =>
      intro i hi he
      obtain ⟨a1, a2⟩ := hA i (by omega)
      obtain ⟨b1, b2⟩ := hB i (by omega)
      refine bk233_2 hT hO ?_
      rw [h60, nIle (a := n) (by omega) (by omega), nI_clamp (by omega), a1, b1, nIle (a := B i) (by omega) (by omega), nIeq (by omega) (by omega)]
      have i3 : mIn (nI i) 3 = true := (nIin_iff (by omega)).mpr (by omega)
      refine ⟨fun z => by omega, fun _ => ⟨i3, i3, fun z => ⟨fun y => by omega, fun _ => ⟨i3, i3, fun y => ?_, fun y => ?_⟩⟩, fun z => ?_⟩⟩
      · rw [bz_f (fun ⟨j, h1, h2, h3⟩ => by
          rcases Nat.lt_trichotomy j i with g | g | g
          · have := he j g; omega
          · subst g; omega
          · exact z (h2 i g))] at hQ
        exact hQ
      · rw [bz_t ⟨i, by omega, he, by omega⟩] at hQ
        exact hQ
      · rintro v rfl
        rw [nIinc]
        refine ih (i + 1) (by omega) (fun j hj => ?_)
        by_cases w : j = i
        · rw [w]; exact Classical.not_not.mp z
        · exact he j (by omega)
  exact main n 0 (by omega) (fun j hj => by omega)
theorem ev_isThere (hd : 1 ≤ d) (hT : mWT m) (hO : m.1 o = some (.inr 8) ∧ o ≠ 0) (hG : uGd P T tk U) (hE : meR P tk pt mk m o U) (hT10 : T ≤ 10) (ht : t < 10) (hn : tnS P tk t ≤ 3) (h60 : iF m o 60 = nI (tnS P tk t)) (hA : ∀ i, i < tnS P tk t → m.2.2.1 (64 * o + 41) i = nI (A i) ∧ A i < 128) (hQ : Q (some (.int (bz (uTh (tnS P tk) U t A)))) m) : mEv d 234 [.ref o, .int (nI t)] m Q := by
  have h80 := hG.2.2.1
  have h30 := hG.2.1
  refine mEv.at (by omega) G234 (Nat.le_of_ble_eq_true rfl) ?_
  refine bk234_0 hT hO ?_
  have main : ∀ r e (z : Int32) (x4 : Option Value), r + e = uE U → z = bz (∃ f, f < e ∧ uBy U f = t ∧ ∀ i, i < tnS P tk t → uHs U f i = A i) → mEs (d - 1) 234 o g234 (4, [some (.ref o), some (.int (nI t)), some (.int z), some (.int (nI e)), x4], [], m) Q := by
    intro r
    induction r with
    | zero =>
      intro e z x4 he hz
      obtain rfl : e = uE U := by omega
      subst hz
      refine bk234_4 hT hO ?_
      rw [hE.1]
      exact ⟨fun _ => ⟨bz_01 _, hQ⟩, fun z => absurd ((nIle (by omega) (by omega)).mpr (Nat.le_refl _)) z⟩
    | succ r ih =>
      intro e z x4 he hz
      subst hz
      have hb := hG.2.2.2.2 e (by omega)
      obtain ⟨e1, _, _, _, e5, _⟩ := hE.2 e (by omega)
      refine bk234_4 hT hO ?_
      rw [hE.1, nIle (by omega) (by omega), bz_0, Classical.not_not, nI_clamp (by omega), e1, nIeq (by omega) (by omega)]
      refine ⟨fun z => by omega, fun _ => ⟨fun q => ⟨Or.inr (bz_t q), ?_⟩, fun q => ⟨(nIin_iff (by omega)).mpr (by omega), ?_⟩⟩⟩
      · rw [bz_t q]
        rw [bz_t (C := uTh (tnS P tk) U t A) (q.elim fun f h => ⟨f, by omega, h.2⟩)] at hQ
        exact hQ
      · have inn : ∀ r2 i (z : Int32), r2 + i = tnS P tk t → z = bz (uBy U e = t ∧ ∀ j, j < i → uHs U e j = A j) → mEs (d - 1) 234 o g234 (35, [some (.ref o), some (.int (nI t)), some (.int z), some (.int (nI e)), some (.int (nI i))], [], m) Q := by
          intro r2
          induction r2 with
          | zero =>
            intro i z hi hz
            obtain rfl : i = tnS P tk t := by omega
            refine bk234_35 hT hO ?_
            rw [h60]
            refine ⟨fun _ => ?_, fun z => absurd ((nIle (by omega) (by omega)).mpr (Nat.le_refl _)) z⟩
            rintro v rfl
            rw [nIinc]
            refine ih (e + 1) z _ (by omega) (hz.trans (bz_cg ⟨fun h => ⟨e, by omega, h⟩, fun ⟨f, h1, h2⟩ => ?_⟩))
            by_cases w : f = e
            · rw [w] at h2; exact h2
            · exact absurd ⟨f, by omega, h2⟩ q
          | succ r2 ih2 =>
            intro i z hi hz
            subst hz
            obtain ⟨a1, a2⟩ := hA i (by omega)
            refine bk234_35 hT hO ?_
            rw [h60, nIle (by omega) (by omega), bz_0]
            refine ⟨fun z => by omega, fun _ => ⟨fun w => ?_, fun w => ?_⟩⟩
            · rintro v rfl
              rw [nIinc]
              exact ih2 (i + 1) 0 (by omega) (bz_f (fun h => w ⟨h.1, fun j hj => h.2 j (by omega)⟩)).symm
            · have w := Classical.not_not.mp w
              have hh := hG.1.2.2.1 e (by omega) i (by rw [w.1]; omega)
              rw [n3x, nI_add, nI_clamp (by omega), nI_clamp (by omega), e5 i (by rw [w.1]; omega), a1, nIeq (by omega) (by omega)]
              refine ⟨(nIin_iff (by omega)).mpr (by omega), (nIin_iff (by omega)).mpr (by omega), fun y => ?_, fun y => ?_⟩
              · rintro v rfl
                rw [nIinc]
                exact ih2 (i + 1) 0 (by omega) (bz_f (fun h => y (h.2 i (by omega)))).symm
              · rintro v rfl
                rw [nIinc]
                refine ih2 (i + 1) 1 (by omega) (bz_t ⟨w.1, fun j hj => ?_⟩).symm
                by_cases u : j = i
                · rw [u]; exact Classical.not_not.mp y
                · exact w.2 j (by omega)
        refine ⟨fun y => inn (tnS P tk t) 0 0 (by omega) (bz_f (fun h => y h.1)).symm, fun y => inn (tnS P tk t) 0 1 (by omega) (bz_t ⟨Classical.not_not.mp y, fun j hj => by omega⟩).symm⟩
  exact main (uE U) 0 0 _ (by omega) (bz_f (fun ⟨f, h, _⟩ => by omega)).symm
end MUN3
