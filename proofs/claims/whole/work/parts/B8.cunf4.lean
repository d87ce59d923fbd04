/-! The class Unfolding: what an event leaves, whether it is cut off. -/
section CUN4
variable {P T d c n e : Nat} {tk pt : Nat → Nat → Nat} {fi mk : Nat → Nat} {U : uS} {m : mMem} {Q : Option Value → mMem → Prop}
theorem ev_leave (hd : 4 ≤ d) (hT : mWT m) (hO : m.1 c = some (.inr 7) ∧ c ≠ 0) (hN : cNet m n P T tk pt fi) (hk : okNet P T tk pt fi) (hnc : n ≠ c) (h17 : iF m c 17 = nI P) (he : e < 30) (hby : ∀ f, f ≤ e → m.2.2.1 (64 * c + 2) f = nI (uBy U f) ∧ uBy U f < T) (hpa : m.2.2.1 (64 * c + 3) e = nI (uPa U e)) (hst : ∀ p, p < 10 → m.2.2.1 (64 * c + 10) p = nI (mk p))
    (hQ : ∀ m', mTo (fun j => j = 64 * c + 1) (fun _ _ => False) m m' → (∀ p, p < P → m'.2.2.1 (64 * c + 1) (e * 10 + p) = uLf tk pt mk U e p) → (∀ i, i < e * 10 ∨ e * 10 + 10 ≤ i → m'.2.2.1 (64 * c + 1) i = m.2.2.1 (64 * c + 1) i) → Q none m') : mEv d 133 [.ref c, .ref n, .int (nI e)] m Q := by
  have hP10 := hk.1
  have hT10 := hk.2.1
  have hnn : n ≠ 64 * c + 1 := fun e => by
    have := hN.1.1
    rw [e, (hT.arr hO 0 rfl (by decide)).1] at this
    cases this
  refine mEv.at (by omega) G133 (Nat.le_of_ble_eq_true rfl) ?_
  refine bk133_0 hT hO hN.1 ?_
  have main : ∀ j p m1 (x4 x5 : Option Value), j + p = P → mTo (fun j => j = 64 * c + 1) (fun _ _ => False) m m1 → (∀ q, q < p → m1.2.2.1 (64 * c + 1) (e * 10 + q) = uLf tk pt mk U e q) → (∀ i, i < e * 10 ∨ e * 10 + 10 ≤ i → m1.2.2.1 (64 * c + 1) i = m.2.2.1 (64 * c + 1) i) → mEs (d - 1) 133 c g133 (2, [some (.ref c), some (.ref n), some (.int (nI e)), some (.int (nI p)), x4, x5], [], m1) Q := by
    intro j
    induction j with
    | zero =>
      intro p m1 x4 x5 hp T1 h1 h2
      obtain rfl : p = P := by omega
      refine bk133_2 T1.wt (T1.ob hO) (T1.ob hN.1) ?_
      rw [T1.nf id, h17]
      exact ⟨fun _ => hQ m1 T1 h1 h2, fun z => absurd ((nIle (by omega) (by omega)).mpr (Nat.le_refl _)) z⟩
    | succ j ih =>
      intro p m1 x4 x5 hp T1 h1 h2
      have N1 : cNet m1 n P T tk pt fi := hN.fr (T1.fr (F := fun _ _ => False) (N := fun j => j = 64 * c + 1) (fun _ z => z) (fun _ _ z => z.elim)) (fun a q z => by unfold gwN at q; have := hO.2; omega) (fun _ => id)
      have e3 : m1.2.2.1 (64 * c + 3) e = nI (uPa U e) := by rw [T1.i (by omega)]; exact hpa
      have e10 : m1.2.2.1 (64 * c + 10) p = nI (mk p) := by rw [T1.i (by omega)]; exact hst p (by omega)
      have inner : ∀ j2 f, j2 + f = e + 1 → mEs (d - 1) 133 c g133 (21, [some (.ref c), some (.ref n), some (.int (nI e)), some (.int (nI p)), some (.int (lfN tk pt mk U e p f)), some (.int (nI f))], [], m1) Q := by
        intro j2
        induction j2 with
        | zero =>
          intro f hf
          obtain rfl : f = e + 1 := by omega
          refine bk133_21 T1.wt (T1.ob hO) (T1.ob hN.1) ⟨fun _ => ?_, fun z => absurd ((nI_ltI (by omega) (by omega)).mpr (Nat.lt_succ_self e)) z⟩
          rw [l10, nI_mul, nI_add, nI_clamp (by omega)]
          refine ⟨(nIin_iff (by omega)).mpr (by omega), ?_⟩
          rintro m2 rfl w rfl
          rw [nIinc]
          refine ih (p + 1) _ _ _ (by omega) (T1.sI rfl) (fun q hq => ?_) (fun i hi => ?_)
          · rw [rdI_same]
            by_cases z : q = p
            · rw [z, up_s]; rfl
            · rw [up_n (by omega)]; exact h1 q (by omega)
          · rw [rdI_same, up_n (by omega)]; exact h2 i hi
        | succ j2 ih2 =>
          intro f hf
          obtain ⟨b1, b2⟩ := hby f (by omega)
          have e2 : m1.2.2.1 (64 * c + 2) f = nI (uBy U f) := by rw [T1.i (by omega)]; exact b1
          have nx := ih2 (f + 1) (by omega)
          rw [show lfN tk pt mk U e p (f + 1) = lfN tk pt mk U e p f + (if (uPa U e).testBit f then nI (pt (uBy U f) p) - nI (tk (uBy U f) p) else 0) from rfl] at nx
          refine bk133_21 T1.wt (T1.ob hO) (T1.ob hN.1) ?_
          rw [nI_ltI (by omega) (by omega), nI_clamp (show e < 2 ^ 31 by omega), nI_clamp (show f < 2 ^ 31 by omega), e3, e2, sbit (by omega)]
          refine ⟨fun z => by omega, fun _ => ⟨(nIin_iff (by omega)).mpr (by omega), fun z => ?_, fun z => ⟨(nIin_iff (by omega)).mpr (by omega), ?_⟩⟩⟩
          · rintro w rfl
            rw [if_neg z, Int32.add_zero] at nx
            rw [nIinc]
            exact nx
          · have z' : (uPa U e).testBit f = true := Classical.not_not.mp z
            rw [if_pos z'] at nx
            refine ev_change (by omega) T1.wt N1 (by omega) (by omega) ?_
            refine bk133_56 T1.wt (T1.ob hO) (T1.ob hN.1) ?_
            rintro w rfl v rfl
            rw [nIinc]
            exact nx
      refine bk133_2 T1.wt (T1.ob hO) (T1.ob hN.1) ?_
      rw [T1.nf id, h17, nIle (by omega) (by omega), nI_clamp (by omega), e10]
      refine ⟨fun z => by omega, fun _ => ⟨(nIin_iff (by omega)).mpr (by omega), ?_⟩⟩
      rintro w rfl
      exact inner (e + 1) 0 (by omega)
  exact main P 0 m _ _ (by omega) (mTo.rf hT) (fun q hq => by omega) (fun _ _ => rfl)
theorem ev_isLeft {r lr base : Nat} (hd : 1 ≤ d) (hT : mWT m) (hO : m.1 c = some (.inr 7) ∧ c ≠ 0) (hA : m.1 r = some (.inl (.int, lr)) ∧ r ≠ 0) (h17 : iF m c 17 = nI P) (hP : P ≤ 10) (he : e < 30) (hb : base + 10 ≤ lr) (hl : lr ≤ 300)
    (hQ : Q (some (.int (bz (∀ p, p < P → m.2.2.1 (64 * c + 1) (e * 10 + p) = m.2.2.1 r (base + p))))) m) : mEv d 135 [.ref c, .int (nI e), .ref r, .int (nI base)] m Q := by
  refine mEv.at (by omega) G135 (Nat.le_of_ble_eq_true rfl) ?_
  refine bk135_0 hT hO hA ?_
  have main : ∀ j i, j + i = P → (∀ p, p < i → m.2.2.1 (64 * c + 1) (e * 10 + p) = m.2.2.1 r (base + p)) → mEs (d - 1) 135 c g135 (3, [some (.ref c), some (.int (nI e)), some (.ref r), some (.int (nI base)), some (.int (nI i))], [], m) Q := by
    intro j
    induction j with
    | zero =>
      intro i hi h
      obtain rfl : i = P := by omega
      rw [bz_t h] at hQ
      refine bk135_3 hT hO hA ?_
      rw [h17]
      exact ⟨fun _ => hQ, fun z => absurd ((nIle (by omega) (by omega)).mpr (Nat.le_refl _)) z⟩
    | succ j ih =>
      intro i hi h
      refine bk135_3 hT hO hA ?_
      rw [h17, l10, nI_mul, nI_add, nI_add, nI_clamp (by omega), nI_clamp (by omega), nIle (by omega) (by omega)]
      refine ⟨fun z => by omega, fun _ => ⟨(nIin_iff (by omega)).mpr (by omega), (nIin_iff (by omega)).mpr (by omega), fun z => ?_, fun z => ?_⟩⟩
      · rintro v rfl
        rw [nIinc]
        refine ih (i + 1) (by omega) (fun p hp => ?_)
        by_cases q : p = i
        · rw [q]; exact z
        · exact h p (by omega)
      · rw [bz_f (fun q => z (q i (by omega)))] at hQ
        exact hQ
  exact main P 0 (by omega) (fun p hp => by omega)
theorem ev_isCut (hd : 2 ≤ d) (hT : mWT m) (hO : m.1 c = some (.inr 7) ∧ c ≠ 0) (h17 : iF m c 17 = nI P) (hP : P ≤ 10) (he : e < 30) (hpa : ∀ f, f ≤ e → m.2.2.1 (64 * c + 3) f = nI (uPa U f) ∧ uPa U f < 2 ^ 31) (hst : ∀ p, p < 10 → m.2.2.1 (64 * c + 10) p = nI (mk p)) (hlf : ∀ f, f ≤ e → ∀ p, p < P → m.2.2.1 (64 * c + 1) (f * 10 + p) = uLf tk pt mk U f p)
    (hQ : Q (some (.int (bz (uCu P tk pt mk U e)))) m) : mEv d 134 [.ref c, .int (nI e)] m Q := by
  refine mEv.at (by omega) G134 (Nat.le_of_ble_eq_true rfl) ?_
  refine bk134_0 hT hO ?_
  rw [show (0 : Int32) = nI 0 from rfl]
  refine ev_isLeft (P := P) (lr := 10) (by omega) hT hO (hT.arr hO 9 rfl (by decide)) h17 hP he (by omega) (by omega) ?_
  refine bk134_10 hT hO ?_
  rw [bz_0]
  have main : (¬ ∀ p, p < P → uLf tk pt mk U e p = nI (mk p)) → ∀ j i, j + i = e → (∀ f, f < i → ¬ (pcN (uPa U f) < pcN (uPa U e) ∧ ∀ p, p < P → uLf tk pt mk U e p = uLf tk pt mk U f p)) → mEs (d - 1) 134 c g134 (17, [some (.ref c), some (.int (nI e)), some (.int (nI i))], [], m) Q := by
    intro nz j
    induction j with
    | zero =>
      intro i hi h
      obtain rfl : i = e := by omega
      rw [bz_f (fun q : uCu P tk pt mk U i => q.elim nz (fun ⟨f, q1, q2⟩ => h f q1 q2))] at hQ
      exact bk134_17 hT hO ⟨fun _ => hQ, fun z => absurd ((nIle (by omega) (by omega)).mpr (Nat.le_refl _)) z⟩
    | succ j ih =>
      intro i hi h
      obtain ⟨a1, a2⟩ := hpa i (by omega)
      obtain ⟨a3, a4⟩ := hpa e (by omega)
      have l1 := pc_le (uPa U i)
      have l2 := pc_le (uPa U e)
      have nxt : ¬ (pcN (uPa U i) < pcN (uPa U e) ∧ ∀ p, p < P → uLf tk pt mk U e p = uLf tk pt mk U i p) → mEs (d - 1) 134 c g134 (17, [some (.ref c), some (.int (nI e)), some (.int (nI (i + 1)))], [], m) Q := by
        intro z
        refine ih (i + 1) (by omega) (fun f hf => ?_)
        by_cases q : f = i
        · rw [q]; exact z
        · exact h f (by omega)
      refine bk134_17 hT hO ?_
      rw [nIle (by omega) (by omega), nI_clamp (by omega), a1]
      refine ⟨fun z => by omega, fun _ => ⟨(nIin_iff (by omega)).mpr (by omega), ?_⟩⟩
      refine ev_bitCount (by omega) hT a2 ?_
      refine bk134_31 hT hO ?_
      rw [nI_clamp (by omega), a3]
      refine ⟨(nIin_iff (by omega)).mpr (by omega), ?_⟩
      refine ev_bitCount (by omega) hT a4 ?_
      refine bk134_40 hT hO ?_
      rw [nIle (by omega) (by omega)]
      refine ⟨fun z => ?_, fun z => ?_⟩
      · rintro v rfl
        rw [nIinc]
        exact nxt (fun q => by omega)
      · rw [l10, nI_mul]
        refine ev_isLeft (P := P) (lr := 300) (by omega) hT hO (hT.arr hO 0 rfl (by decide)) h17 hP he (by omega) (by omega) ?_
        refine bk134_56 hT hO ?_
        rw [bz_0]
        have eq : (∀ p, p < P → m.2.2.1 (64 * c + 1) (e * 10 + p) = m.2.2.1 (64 * c + 1) (i * 10 + p)) ↔ ∀ p, p < P → uLf tk pt mk U e p = uLf tk pt mk U i p :=
          ⟨fun q p hp => by rw [← hlf e (by omega) p hp, ← hlf i (by omega) p hp]; exact q p hp, fun q p hp => by rw [hlf e (by omega) p hp, hlf i (by omega) p hp]; exact q p hp⟩
        rw [eq]
        refine ⟨fun w => ?_, fun w => ?_⟩
        · rintro v rfl
          rw [nIinc]
          exact nxt (fun q => w q.2)
        · rw [bz_t (C := uCu P tk pt mk U e) (Or.inr ⟨i, by omega, by omega, Classical.not_not.mp w⟩)] at hQ
          exact hQ
  have eq : (∀ p, p < P → m.2.2.1 (64 * c + 1) (e * 10 + p) = m.2.2.1 (64 * c + 10) (0 + p)) ↔ ∀ p, p < P → uLf tk pt mk U e p = nI (mk p) :=
    ⟨fun q p hp => by rw [← hlf e (by omega) p hp, ← hst p (by omega), q p hp, Nat.zero_add], fun q p hp => by rw [hlf e (by omega) p hp, Nat.zero_add, hst p (by omega)]; exact q p hp⟩
  rw [eq]
  refine ⟨fun z => main z e 0 (by omega) (fun f hf => by omega), fun z => ?_⟩
  rw [bz_t (C := uCu P tk pt mk U e) (Or.inl (Classical.not_not.mp z))] at hQ
  exact hQ
end CUN4
