/-! The class Unfolding: whether the net is too great for it. -/
def uTg (P T : Nat) (tk : Nat → Nat → Nat) (mk : Nat → Nat) : Prop := 12 < fb_sm mk P ∨ ∃ t, t < T ∧ 3 < tnS P tk t
section CGR
variable {P T c n d : Nat} {tk pt : Nat → Nat → Nat} {fi mk : Nat → Nat} {m : mMem} {Q : Option Value → mMem → Prop}
theorem ev_tooGreatU (hd : 3 ≤ d) (hT : mWT m) (hO : m.1 c = some (.inr 7) ∧ c ≠ 0) (hN : cNet m n P T tk pt fi) (hk : okNet P T tk pt fi) (h17 : iF m c 17 = nI P) (hst : ∀ p, p < 10 → m.2.2.1 (64 * c + 10) p = nI (mk p)) (hm : ∀ p, mk p ≤ 99) (hQ : Q (some (.int (bz (uTg P T tk mk)))) m) : mEv d 124 [.ref c, .ref n] m Q := by
  have hP10 := hk.1
  have hT10 := hk.2.1
  have sm : ∀ p, p ≤ 10 → fb_sm mk p ≤ 990 := fun p hp => by have := fb_sm_bound (f := mk) (c := 99) (n := p) (fun k _ => hm k); omega
  refine mEv.at (by omega) G124 (Nat.le_of_ble_eq_true rfl) ?_
  refine bk124_0 hT hO hN.1 ?_
  have l2 : ∀ k t (z : Int32), k + t = T → z = bz (12 < fb_sm mk P ∨ ∃ u, u < t ∧ 3 < tnS P tk u) → mEs (d - 1) 124 c g124 (42, [some (.ref c), some (.ref n), some (.int (nI (fb_sm mk P))), some (.int z), some (.int (nI t))], [], m) Q := by
    intro k
    induction k with
    | zero =>
      intro t z ht hz
      obtain rfl : t = T := by omega
      subst hz
      refine bk124_42 hT hO hN.1 ?_
      rw [hN.2.2.1]
      exact ⟨fun _ => ⟨bz_01 _, hQ⟩, fun z => absurd ((nIle (by omega) (by omega)).mpr (Nat.le_refl _)) z⟩
    | succ k ih =>
      intro t z ht hz
      subst hz
      refine bk124_42 hT hO hN.1 ?_
      rw [hN.2.2.1, nIle (by omega) (by omega), bz_n0]
      refine ⟨fun z => by omega, fun _ => ⟨fun z => ?_, fun z => ?_⟩⟩
      · rintro w rfl
        rw [nIinc]
        exact ih (t + 1) 1 (by omega) (bz_t (z.imp id (fun ⟨u, h1, h2⟩ => ⟨u, by omega, h2⟩))).symm
      · refine ev_takenInAll (by omega) hT hN hk (by omega) ?_
        refine bk124_61 hT hO hN.1 ?_
        have sb : tnS P tk t ≤ 90 := by have := fb_sm_bound (f := tk t) (c := 9) (n := P) (fun k _ => hk.2.2.1 t k); unfold tnS; omega
        rw [show fb_sm (tk t) P = tnS P tk t from rfl, l3, nIle (by omega) (by omega)]
        refine ⟨fun y => ?_, fun y => ?_⟩
        · rintro w rfl
          rw [nIinc]
          refine ih (t + 1) 0 (by omega) (bz_f (fun q => z (q.imp id (fun ⟨u, h1, h2⟩ => ⟨u, ?_, h2⟩)))).symm
          refine Nat.lt_of_not_le fun w => ?_
          obtain rfl : u = t := by omega
          omega
        · rintro w rfl
          rw [nIinc]
          exact ih (t + 1) 1 (by omega) (bz_t (Or.inr ⟨t, by omega, by omega⟩)).symm
  have l1 : ∀ k p (x4 : Option Value), k + p = P → mEs (d - 1) 124 c g124 (4, [some (.ref c), some (.ref n), some (.int (nI (fb_sm mk p))), some (.int (nI p)), x4], [], m) Q := by
    intro k
    induction k with
    | zero =>
      intro p x4 hp
      obtain rfl : p = P := by omega
      have := sm p hP10
      refine bk124_4 hT hO hN.1 ?_
      rw [h17, show (12 : Int32) = nI 12 from rfl, nIle (a := fb_sm mk p) (by omega) (by omega)]
      refine ⟨fun _ => ⟨fun z => ?_, fun z => ?_⟩, fun z => absurd ((nIle (by omega) (by omega)).mpr (Nat.le_refl _)) z⟩
      · exact l2 T 0 0 (by omega) (bz_f (fun q => q.elim (fun q => by omega) (fun ⟨u, h1, _⟩ => by omega))).symm
      · exact l2 T 0 1 (by omega) (bz_t (Or.inl (by omega))).symm
    | succ k ih =>
      intro p x4 hp
      refine bk124_4 hT hO hN.1 ?_
      rw [h17, nIle (a := P) (by omega) (by omega), nI_clamp (by omega), hst p (by omega)]
      refine ⟨fun z => by omega, fun _ => ⟨(nIin_iff (by omega)).mpr (by omega), ?_⟩⟩
      rintro w rfl w2 rfl
      rw [nI_add, nIinc]
      exact ih (p + 1) x4 (by omega)
  exact l1 P 0 _ (by omega)
end CGR
