/-! The class Net: contracts. -/
/-- a net object: P places, T transitions, what each takes, puts; the first marking -/
def cNet (m : mMem) (n P T : Nat) (tk pt : Nat → Nat → Nat) (fi : Nat → Nat) : Prop :=
  (m.1 n = some (.inr 2) ∧ n ≠ 0) ∧ iF m n 0 = nI P ∧ iF m n 1 = nI T ∧ (∀ t, t < 10 → ∀ p, p < 10 → m.2.2.1 (64 * n + 2) (t * 10 + p) = nI (tk t p)) ∧ (∀ t, t < 10 → ∀ p, p < 10 → m.2.2.1 (64 * n + 3) (t * 10 + p) = nI (pt t p)) ∧ (∀ p, p < 10 → m.2.2.1 (64 * n + 1) p = nI (fi p))
def okNet (P T : Nat) (tk pt : Nat → Nat → Nat) (fi : Nat → Nat) : Prop := P ≤ 10 ∧ T ≤ 10 ∧ (∀ t p, tk t p ≤ 9) ∧ (∀ t p, pt t p ≤ 9) ∧ (∀ p, fi p ≤ 99) ∧ (∀ t p, P ≤ p ∨ T ≤ t → tk t p = 0 ∧ pt t p = 0) ∧ (∀ p, P ≤ p → fi p = 0)
/-- whether a transition can fire by a marking -/
def rdyS (P : Nat) (tk pt : Nat → Nat → Nat) (mk : Nat → Nat) (t : Nat) : Prop := ∀ p, p < P → tk t p ≤ mk p ∧ mk p - tk t p + pt t p ≤ 99
section NET
variable {d n r lr P T : Nat} {tk pt : Nat → Nat → Nat} {fi mk : Nat → Nat} {m : mMem} {Q : Option Value → mMem → Prop}
theorem ev_hasPl (hd : 1 ≤ d) (hT : mWT m) (hN : cNet m n P T tk pt fi) (hk : okNet P T tk pt fi) (x : Int32) (hQ : Q (some (.int (bz (∃ j, j < P ∧ x = nI j)))) m) : mEv d 19 [.ref n, .int x] m Q := by
  refine mEv.at hd G19 (Nat.le_of_ble_eq_true rfl) ?_
  have h10 := hk.1
  refine bk19_0 hT hN.1 ?_
  rw [hN.2.1]
  rcases pk_ix x (n := P) (by omega) with h | h | ⟨j, hj, rfl⟩
  · rw [bz_f] at hQ
    · exact ⟨fun _ => hQ, fun c => absurd h c⟩
    · rintro ⟨j, hj, rfl⟩
      exact nI_nlt0 (by omega) h
  · rw [bz_f] at hQ
    · exact ⟨fun _ => hQ, fun _ => ⟨fun _ => hQ, fun c => absurd h c⟩⟩
    · rintro ⟨j, hj, rfl⟩
      rw [nIle (by omega) (by omega)] at h
      omega
  · simp (disch := omega) only [nIlt0, nIle]
    rw [bz_t ⟨j, hj, rfl⟩] at hQ
    exact ⟨False.elim, fun _ => ⟨fun c => by omega, fun _ => hQ⟩⟩
theorem ev_hasTr (hd : 1 ≤ d) (hT : mWT m) (hN : cNet m n P T tk pt fi) (hk : okNet P T tk pt fi) (x : Int32) (hQ : Q (some (.int (bz (∃ j, j < T ∧ x = nI j)))) m) : mEv d 25 [.ref n, .int x] m Q := by
  refine mEv.at hd G25 (Nat.le_of_ble_eq_true rfl) ?_
  have h10 := hk.2.1
  refine bk25_0 hT hN.1 ?_
  rw [hN.2.2.1]
  rcases pk_ix x (n := T) (by omega) with h | h | ⟨j, hj, rfl⟩
  · rw [bz_f] at hQ
    · exact ⟨fun _ => hQ, fun c => absurd h c⟩
    · rintro ⟨j, hj, rfl⟩
      exact nI_nlt0 (by omega) h
  · rw [bz_f] at hQ
    · exact ⟨fun _ => hQ, fun _ => ⟨fun _ => hQ, fun c => absurd h c⟩⟩
    · rintro ⟨j, hj, rfl⟩
      rw [nIle (by omega) (by omega)] at h
      omega
  · simp (disch := omega) only [nIlt0, nIle]
    rw [bz_t ⟨j, hj, rfl⟩] at hQ
    exact ⟨False.elim, fun _ => ⟨fun c => by omega, fun _ => hQ⟩⟩
theorem ev_change (hd : 1 ≤ d) (hT : mWT m) (hN : cNet m n P T tk pt fi) {t p : Nat} (ht : t < 10) (hp : p < 10) (hQ : Q (some (.int (nI (pt t p) - nI (tk t p)))) m) : mEv d 28 [.ref n, .int (nI t), .int (nI p)] m Q := by
  refine mEv.at hd G28 (Nat.le_of_ble_eq_true rfl) ?_
  refine bk28_0 hT hN.1 ?_
  simp (disch := omega) only [nIx10, nI_add, nIin_iff, nI_clamp, hN.2.2.2.1 t ht p hp, hN.2.2.2.2.1 t ht p hp]
  exact ⟨by omega, by omega, hQ⟩
theorem rdy_not {t p : Nat} (hp : p < P) (hm : mk p ≤ 99) (c : nI (mk p) - nI (tk t p) < 0) : ¬ rdyS P tk pt mk t := by
  intro z
  have z1 := (z p hp).1
  rw [pk_sub z1] at c
  exact nI_nlt0 (by omega) c
theorem ev_isReadyN (hd : 1 ≤ d) (hT : mWT m) (hN : cNet m n P T tk pt fi) (hk : okNet P T tk pt fi) (hA : m.1 r = some (.inl (.int, lr)) ∧ r ≠ 0) (hl : 10 ≤ lr) (hr : ∀ p, p < 10 → m.2.2.1 r p = nI (mk p)) (hm : ∀ p, mk p ≤ 99) {t : Nat} (ht : t < 10) (hQ : Q (some (.int (bz (rdyS P tk pt mk t)))) m) : mEv d 23 [.ref n, .ref r, .int (nI t)] m Q := by
  obtain ⟨hO, hP, hTr, htk, hpt, hfi⟩ := id hN
  obtain ⟨k1, k2, k3, k4, k5, k6, k7⟩ := id hk
  refine mEv.at hd G23 (Nat.le_of_ble_eq_true rfl) ?_
  refine bk23_0 hT hO hA ?_
  refine upto (e := P) (X := fun p => ∀ o, (∀ q, q < p → tk t q ≤ mk q ∧ mk q - tk t q + pt t q ≤ 99) → mEs (d - 1) 23 _ g23 (2, [some (.ref n), some (.ref r), some (.int (nI t)), some (.int (nI p)), o], [], m) Q) ?_ ?_ 0 (Nat.zero_le _) _ (fun q hq => absurd hq (Nat.not_lt_zero _))
  · intro o hq
    refine bk23_2 hT hO hA ?_
    simp (disch := omega) only [hP, nIle]
    rw [bz_t (show rdyS P tk pt mk t from hq)] at hQ
    exact ⟨fun _ => hQ, fun c => absurd (Nat.le_refl _) c⟩
  · intro p hp ih o hq
    have a1 := hm p
    have a2 := k3 t p
    have a3 := k4 t p
    refine bk23_2 hT hO hA ?_
    simp (disch := omega) only [hP, nIle, nIx10, nI_add, nIin_iff, nI_clamp, forall_eq, hr p (by omega), htk t ht p (by omega), hpt t ht p (by omega), nIinc]
    refine ⟨fun c => by omega, fun _ => ⟨by omega, by omega, fun c => ?_, fun c => ⟨by omega, fun c2 => ?_, fun c2 => ?_⟩⟩⟩
    · rw [bz_f (rdy_not hp a1 c)] at hQ; exact hQ
    · refine ih _ (fun q hq' => ?_)
      by_cases e : q = p
      · subst e
        have z1 : tk t q ≤ mk q := by
          refine Nat.le_of_not_lt fun z => c (pk_sneg (by omega) z)
        rw [pk_sub z1, nI_add, l99, nIle (by omega) (by omega)] at c2
        exact ⟨z1, c2⟩
      · exact hq q (by omega)
    · rw [bz_f] at hQ
      · exact hQ
      · intro z
        have z1 := (z p hp).1
        rw [pk_sub z1, nI_add, l99, nIle (by omega) (by omega)] at c2
        exact c2 (z p hp).2
theorem ev_readyBits (hd : 2 ≤ d) (hT : mWT m) (hN : cNet m n P T tk pt fi) (hk : okNet P T tk pt fi) (hA : m.1 r = some (.inl (.int, lr)) ∧ r ≠ 0) (hl : 10 ≤ lr) (hr : ∀ p, p < 10 → m.2.2.1 r p = nI (mk p)) (hm : ∀ p, mk p ≤ 99) (hQ : Q (some (.int (nI (bs (rdyS P tk pt mk) T)))) m) : mEv d 22 [.ref n, .ref r] m Q := by
  obtain ⟨hO, hP, hTr, htk, hpt, hfi⟩ := id hN
  obtain ⟨k1, k2, k3, k4, k5, k6, k7⟩ := id hk
  refine mEv.at (by omega) G22 (Nat.le_of_ble_eq_true rfl) ?_
  refine bk22_0 hT hO hA ?_
  refine upto (e := T) (X := fun t => mEs (d - 1) 22 _ g22 (4, [some (.ref n), some (.ref r), some (.int (nI (bs (rdyS P tk pt mk) t))), some (.int (nI t))], [], m) Q) ?_ ?_ 0 (Nat.zero_le _)
  · refine bk22_4 hT hO hA ?_
    simp (disch := omega) only [hTr, nIle]
    exact ⟨fun _ => hQ, fun c => absurd (Nat.le_refl _) c⟩
  · intro t ht ih
    refine bk22_4 hT hO hA ?_
    simp (disch := omega) only [hTr, nIle]
    refine ⟨fun c => by omega, fun _ => ?_⟩
    refine ev_isReadyN (by omega) hT hN hk hA hl hr hm (by omega) ?_
    refine bk22_18 hT hO hA ?_
    simp (disch := omega) only [bz_0, Classical.not_not, forall_eq, nIinc, shl1, or_n]
    refine ⟨fun c => ?_, fun c => ?_⟩
    · rw [bs_sf c] at ih; exact ih
    · rw [bs_st c] at ih; exact ih
end NET
