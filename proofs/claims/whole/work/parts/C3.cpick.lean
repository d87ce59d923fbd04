/-! The class Unfolding: pick. -/
theorem nx_orN (a b : Nat) : nI a ||| nI b = nI (a ||| b) := b_ext fun i hi => by rw [b_or, bt_nI hi, bt_nI hi, bt_nI hi, Nat.testBit_or]
def pkA (c j : Nat) : Prop := 64 * c + 1 ≤ j ∧ j ≤ 64 * c + 13 ∧ j ≠ 64 * c + 10
def ucA (P : Nat) (tk pt : Nat → Nat → Nat) (mk : Nat → Nat) (m : mMem) (c s oc : Nat) (U : uS) : Prop := ucE P tk pt mk m c U ∧ ucC (tnS P tk) m c U ∧ iF m c 3 = 0 ∧ iF m c 18 = nI s ∧ iF m c 19 = nI oc
section CPK0
variable {P c s oc k : Nat} {tk pt : Nat → Nat → Nat} {mk : Nat → Nat} {m : mMem} {U : uS} {g : Nat → Int32}
theorem ucA_pk (h : ucA P tk pt mk m c s oc U) (hk : k = 64 * c + 11 ∨ k = 64 * c + 12) : ucA P tk pt mk (mSetI m k g) c s oc U := by
  obtain ⟨⟨a1, a2, a3, a4⟩, ⟨b1, b2, b3⟩, c1, c2, c3⟩ := h
  refine ⟨⟨a1, a2, ?_, ?_⟩, ⟨b1, ?_, ?_⟩, c1, c2, c3⟩
  · rw [rdI_ne (by omega)]; exact a3
  · rw [rdI_ne (by omega), rdI_ne (by omega), rdI_ne (by omega), rdI_ne (by omega), rdI_ne (by omega), rdI_ne (by omega)]; exact a4
  · rw [rdI_ne (by omega), rdI_ne (by omega)]; exact b2
  · rw [rdI_ne (by omega)]; exact b3
end CPK0
section CPK
variable {P T c n s t oc : Nat} {tk pt : Nat → Nat → Nat} {fi mk : Nat → Nat}
theorem un_lt {U : uS} {A : Nat → Nat} (g : uGd P T tk U) : ∀ k, (∀ i, i < k → A i < uC U) → uUn U A k < 2 ^ 30 := by
  intro k
  induction k with
  | zero => intro _; exact Nat.pow_pos (by decide)
  | succ k ih =>
    intro h
    refine Nat.or_lt_two_pow (ih (fun i hi => h i (by omega))) ?_
    have hA := h k (by omega)
    have h1 := g.1.1 (A k) hA
    have h2 := g.2.1
    show uPo U (A k) < _
    unfold uPo
    by_cases q : uOr U (A k) = 0
    · rw [if_pos q]; exact Nat.pow_pos (by decide)
    · rw [if_neg q]
      exact Nat.lt_of_lt_of_le (g.1.2.1 _ (by omega)).1 (Nat.pow_le_pow_right (by decide) h2)
theorem ev_pick (hk : okNet P T tk pt fi) (hn : ∀ a, gwN n a → ¬ gwN c a) (hn9 : ∀ t, t < T → tnS P tk t ≤ 3) (ht : t < T) (ho8 : oc ≤ 80) (hs : s ≤ 31) : ∀ r dep (A : Nat → Nat) (U : uS) (m : mMem) (d : Nat) (Q : Option Value → mMem → Prop), r + dep = tnS P tk t → 8 + r ≤ d → mWT m → (m.1 c = some (.inr 7) ∧ c ≠ 0) → cNet m n P T tk pt fi → uRo P T tk pt mk s oc U → uPv P tk pt mk U t A dep oc → uDn P T tk pt mk U (kyN s t dep A) → ucA P tk pt mk m c s oc U → (∀ i, i < dep → m.2.2.1 (64 * c + 12) i = nI (A i)) → (∀ p, p < 10 → m.2.2.1 (64 * c + 11) p = nI (tk t p - uCn U A dep p)) →
    (∀ m' V, mTo (pkA c) (aeF c) m m' → uRo P T tk pt mk s oc V → uSm P tk pt mk oc U V → uDn P T tk pt mk V (kyN s t dep A + bw dep) → ucA P tk pt mk m' c s oc V → (∀ i, i < dep → m'.2.2.1 (64 * c + 12) i = m.2.2.1 (64 * c + 12) i) → (∀ p, p < 10 → m'.2.2.1 (64 * c + 11) p = m.2.2.1 (64 * c + 11) p) → Q none m') →
    (∀ m', mTo (pkA c) (aeF c) m m' → iF m' c 3 = 1 → uGr P T tk pt mk → (∀ k, k < oc → m'.2.2.1 (64 * c + 7) k = m.2.2.1 (64 * c + 7) k) → Q none m') → mEv d 131 [.ref c, .ref n, .int (nI t), .int (nI (tnS P tk t)), .int (nI dep), .int (nI (uUn U A dep))] m Q := by
  have hP10 := hk.1
  have hT10 := hk.2.1
  have h3 := hn9 t ht
  intro r
  induction r with
  | zero =>
    intro dep A U m d Q hr hd hT hO hN hRo hPv hDn hU hpk hms hQ1 hQ2
    obtain rfl : dep = tnS P tk t := by omega
    obtain ⟨u1, u2, u3, u4, u5⟩ := id hU
    have g := hRo.1
    have hA : ∀ i, i < tnS P tk t → A i < uC U := fun i hi => Nat.lt_of_lt_of_le (hPv.1 i hi) hRo.2.2.1
    have hA128 : ∀ i, i < tnS P tk t → A i < 128 := fun i hi => by have := hPv.1 i hi; omega
    have no : ¬ (0 < tnS P tk t ∧ pcN (uUn U A (tnS P tk t)) + 1 = s) → Q none m := by
      intro z
      refine hQ1 m U (mTo.rf hT) hRo uSm.rf (hDn.up (by omega) (fun L h1 h2 hc => z (leaf_no h3 (by omega) hA128 h1 h2 hc).2)) hU (fun _ _ => rfl) (fun _ _ => rfl)
    refine mEv.at (by omega) G131 (Nat.le_of_ble_eq_true rfl) ?_
    refine bk131_0 hT hO hN.1 ⟨fun _ => ⟨fun z => ?_, fun z => ?_⟩, fun z => absurd ((nIle (by omega) (by omega)).mpr (Nat.le_refl _)) z⟩
    · refine bk131_39 hT hO hN.1 (no (fun q => ?_))
      rw [show (0 : Int32) = nI 0 from rfl, nIle (by omega) (by omega)] at z
      omega
    · have h0 : 0 < tnS P tk t := by
        rw [show (0 : Int32) = nI 0 from rfl, nIle (by omega) (by omega)] at z
        omega
      have ul := un_lt g (tnS P tk t) hA
      refine ev_bitCount (by omega) hT (by omega) ?_
      refine bk131_21 hT hO hN.1 ?_
      have pl := pc_le (uUn U A (tnS P tk t))
      rw [u4, nIinc, nIeq (by omega) (by omega)]
      refine ⟨fun w => bk131_39 hT hO hN.1 (no (fun q => w q.2)), fun w => ?_⟩
      have hsz : pcN (uUn U A (tnS P tk t)) + 1 = s := Classical.not_not.mp w
      have hK : uCd P T tk pt mk U (kyN s t (tnS P tk t) A) := leaf_cd hPv h0 h3 hRo.2.2.1 g.2.2.1 ht hT10 g.2.2.2.1 hsz
      have eS := ky_s (s := s) (show t < 16 by omega) hA128
      have eT := ky_t (s := s) (show t < 16 by omega) hA128
      have eA : ∀ i, i < tnS P tk t → kAt (kyN s t (tnS P tk t) A) i = A i := fun i hi => by rw [ky_a (by omega) hA128 h3, if_pos hi]
      have hK2 : kyN s t (tnS P tk t) A < 1073741824 := by unfold kSz at eS; omega
      have eU : uUn U A (tnS P tk t) = uUn U (kAt (kyN s t (tnS P tk t) A)) (tnS P tk t) := uUn_cg _ (fun i hi => (eA i hi).symm)
      have call := ev_addEvent (d := d - 1) (K := kyN s t (tnS P tk t) A) (Q := fun r m' => mEs (d - 1) 131 c g131 (39, [some (.ref c), some (.ref n), some (.int (nI t)), some (.int (nI (tnS P tk t))), some (.int (nI (tnS P tk t))), some (.int (nI (uUn U A (tnS P tk t)))), none, none], r.toList ++ [], m') Q) (by omega) hT hO hN hk hn hn9 g u1 u2 u3 hK (by rw [eT]; exact h3) (by rw [eT]; exact fun i hi => by rw [eA i hi]; exact hpk i hi)
      rw [eT, ← eU] at call
      refine call (fun m' T' q1 q2 q3 q4 q5 => ?_) (fun m' T' q1 q2 q7 => ?_)
      · refine bk131_39 T'.wt (T'.ob hO) (T'.ob hN.1) ?_
        obtain ⟨w1, w2, w3⟩ := hRo.st hK eS hK2 hDn hn9 q1 q3
        refine hQ1 m' _ (T'.mono (fun j z => by unfold aeA at z; unfold pkA; omega) (fun _ _ z => z)) w1 w2 ?_ ⟨q4, q5, q2, by rw [T'.nf (by unfold aeF; omega)]; exact u4, by rw [T'.nf (by unfold aeF; omega)]; exact u5⟩ (fun i _ => by rw [T'.i (by unfold aeA; omega)]) (fun p _ => by rw [T'.i (by unfold aeA; omega)])
        have := bw_1 (dep := tnS P tk t)
        refine w3.up (by omega) (fun L l1 l2 hc => ?_)
        have := (leaf_no h3 (by omega) hA128 (by omega) l2 hc).1
        omega
      · refine bk131_39 T'.wt (T'.ob hO) (T'.ob hN.1) ?_
        exact hQ2 m' (T'.mono (fun j z => by unfold aeA at z; unfold pkA; omega) (fun _ _ z => z)) q1 (hRo.gr hK hK2 hDn q2) (fun k hk7 => q7 k (Nat.lt_of_lt_of_le hk7 hRo.2.2.1))
  | succ r ih =>
    intro dep A U m d Q hr hd hT hO hN hRo hPv hDn hU hpk hms hQ1 hQ2
    have hdn : dep < tnS P tk t := by omega
    have hd3 : dep < 3 := by omega
    have hA128 : ∀ i, i < dep → A i < 128 := fun i hi => by have := hPv.1 i hi; omega
    refine mEv.at (by omega) G131 (Nat.le_of_ble_eq_true rfl) ?_
    have loop : ∀ k c' m1 V (x6 : Int32), k + c' = oc → (∀ i, i < dep → A i < c') → mTo (pkA c) (aeF c) m m1 → uRo P T tk pt mk s oc V → uSm P tk pt mk oc U V → uDn P T tk pt mk V (kyN s t (dep + 1) (updN A dep c')) → ucA P tk pt mk m1 c s oc V → (∀ i, i < dep → m1.2.2.1 (64 * c + 12) i = m.2.2.1 (64 * c + 12) i) → (∀ p, p < 10 → m1.2.2.1 (64 * c + 11) p = m.2.2.1 (64 * c + 11) p) → (∀ k, k < oc → m1.2.2.1 (64 * c + 7) k = m.2.2.1 (64 * c + 7) k) → mEs (d - 1) 131 c g131 (66, [some (.ref c), some (.ref n), some (.int (nI t)), some (.int (nI (tnS P tk t))), some (.int (nI dep)), some (.int (nI (uUn U A dep))), some (.int x6), some (.int (nI c'))], [], m1) Q := by
      intro k
      induction k with
      | zero =>
        intro c' m1 V x6 hc hri T1 R1 S1 D1 U1 p1 q1 z1
        obtain rfl : c' = oc := by omega
        refine bk131_66 T1.wt (T1.ob hO) (T1.ob hN.1) ?_
        rw [U1.2.2.2.2]
        exact ⟨fun _ => hQ1 m1 V T1 R1 S1 (dn_end hd3 (by omega) hA128 hdn R1.1.2.2.2.1 (by omega) D1 (fun c hc => R1.nf hc)) U1 p1 q1, fun z => absurd ((nIle (by omega) (by omega)).mpr (Nat.le_refl _)) z⟩
      | succ k ihk =>
        intro c' m1 V x6 hc hri T1 R1 S1 D1 U1 p1 q1 z1
        obtain ⟨v1, v2, v3, v4, v5⟩ := id U1
        have gV := R1.1
        have hcV : c' < uC V := by have := R1.2.2.1; omega
        have hV80 := gV.2.2.1
        have oV := gV.1.1 c' hcV
        have plV := gV.2.2.2.1 c' hcV
        have hAo := hPv.1
        have eUn : uUn V A dep = uUn U A dep := S1.un dep hAo
        have eN : uUn V (updN A dep c') (dep + 1) = uUn V A dep ||| uPo V c' := by
          show uUn V (updN A dep c') dep ||| uPo V (updN A dep c' dep) = _
          rw [uUn_cg _ (fun i hi => updN_n (by omega)), updN_s]
        have nxt : ∀ m2 V2, mTo (pkA c) (aeF c) m m2 → uRo P T tk pt mk s oc V2 → uSm P tk pt mk oc U V2 → uDn P T tk pt mk V2 (kyN s t (dep + 1) (updN A dep (c' + 1))) → ucA P tk pt mk m2 c s oc V2 → (∀ i, i < dep → m2.2.2.1 (64 * c + 12) i = m.2.2.1 (64 * c + 12) i) → (∀ p, p < 10 → m2.2.2.1 (64 * c + 11) p = m.2.2.1 (64 * c + 11) p) → (∀ k, k < oc → m2.2.2.1 (64 * c + 7) k = m.2.2.1 (64 * c + 7) k) → mEs (d - 1) 131 c g131 (66, [some (.ref c), some (.ref n), some (.int (nI t)), some (.int (nI (tnS P tk t))), some (.int (nI dep)), some (.int (nI (uUn U A dep))), some (.int x6), some (.int (nI (c' + 1)))], [], m2) Q :=
          fun m2 V2 a1 a2 a3 a4 a5 a6 a7 a8 => ihk (c' + 1) m2 V2 x6 (by omega) (fun i hi => by have := hri i hi; omega) a1 a2 a3 a4 a5 a6 a7 a8
        have skip : ¬ uFit P tk pt mk V s t A dep c' → mEs (d - 1) 131 c g131 (66, [some (.ref c), some (.ref n), some (.int (nI t)), some (.int (nI (tnS P tk t))), some (.int (nI dep)), some (.int (nI (uUn U A dep))), some (.int x6), some (.int (nI (c' + 1)))], [], m1) Q := by
          intro nf
          refine nxt m1 V T1 R1 S1 ?_ U1 p1 q1 z1
          exact dn_run hd3 (by omega) hA128 hdn gV.2.2.2.1 D1 1 (by omega) (fun c2 h1 h2 => by rw [show c2 = c' by omega]; exact nf)
        refine bk131_66 T1.wt (T1.ob hO) (T1.ob hN.1) ?_
        rw [v5, v3, nIle (by omega) (by omega)]
        refine ⟨fun z => by omega, fun _ => ⟨fun z => absurd rfl z, fun _ => ?_⟩⟩
        refine ev_isFit (tn := tnS P tk) (P := P) (tk := tk) (pt := pt) (mk := mk) (U := V) (A := A) (ms := fun p => tk t p - uCn V A dep p) (by omega) T1.wt (T1.ob hO) hcV hV80 gV.2.1 oV (v2.2.1 c' hcV).1 (by omega) (v2.2.1 c' hcV).2 (fun e he => (v1.2.2.2 e he).2.2.1) (fun p hp => by rw [q1 p hp, S1.cn hAo]; exact hms p hp) (fun p => by have := hk.2.2.1 t p; omega) (by omega) (fun i hi => ⟨by rw [p1 i hi]; exact hpk i hi, Nat.lt_of_lt_of_le (hAo i hi) R1.2.2.1⟩) v2.2.2 ?_
        refine bk131_90 T1.wt (T1.ob hO) (T1.ob hN.1) ?_
        rw [bz_0]
        refine ⟨fun z => ?_, fun z => ?_⟩
        · rintro w rfl
          rw [nIinc]
          exact skip (fun f => z ⟨by have := f.2.2.2.2.1; show tk t (uPl V c') - uCn V A dep (uPl V c') ≠ 0; omega, f.2.2.1, f.2.2.2.1⟩)
        · have z' := Classical.not_not.mp z
          · have hms0 : tk t (uPl V c') - uCn V A dep (uPl V c') ≠ 0 := z'.1
            have f5 : uCn V A dep (uPl V c') < tk t (uPl V c') := by omega
            refine ⟨(nIin_iff (by omega)).mpr (by omega), ?_⟩
            intro m2 h2
            rw [nI_clamp (by omega)] at h2
            have c7 : m2.2.2.1 (64 * c + 7) c' = nI (uPl V c') := by rw [h2, rdI_ne (by omega)]; exact (v2.2.1 c' hcV).1
            have c11 : m2.2.2.1 (64 * c + 11) = m1.2.2.1 (64 * c + 11) := by rw [h2, rdI_ne (by omega)]
            rw [nI_clamp (show c' < 2 ^ 31 by omega), c7, nI_clamp (show uPl V c' < 2 ^ 31 by omega)]
            refine ⟨(nIin_iff (by omega)).mpr (by omega), (nIin_iff (by omega)).mpr (by omega), (nIin_iff (by omega)).mpr (by omega), ?_⟩
            intro m4 h4
            have e11 : m1.2.2.1 (64 * c + 11) (uPl V c') = nI (tk t (uPl V c') - uCn V A dep (uPl V c')) := by rw [q1 _ (by omega), S1.cn hAo]; exact hms _ (by omega)
            rw [c11, e11, nIdec (by omega)] at h4
            have T4 : mTo (pkA c) (aeF c) m m4 := by
              rw [h4]
              refine mTo.sI ?_ (by unfold pkA; omega)
              rw [h2]
              exact T1.sI (by unfold pkA; omega)
            have U4 : ucA P tk pt mk m4 c s oc V := by
              rw [h4]
              refine ucA_pk ?_ (Or.inl rfl)
              rw [h2]
              exact ucA_pk U1 (Or.inr rfl)
            have p4 : m4.2.2.1 (64 * c + 12) = upd (m1.2.2.1 (64 * c + 12)) dep (nI c') := by rw [h4, rdI_ne (by omega), h2, rdI_same]
            have q4 : m4.2.2.1 (64 * c + 11) = upd (m1.2.2.1 (64 * c + 11)) (uPl V c') (nI (tk t (uPl V c') - uCn V A dep (uPl V c') - 1)) := by rw [h4, rdI_same]
            have z4 : ∀ k, m4.2.2.1 (64 * c + 7) k = m1.2.2.1 (64 * c + 7) k := fun k => by rw [h4, rdI_ne (by omega), h2, rdI_ne (by omega)]
            clear h4 h2
            have e' : ∀ i, i < dep → updN A dep c' i = A i := fun i hi => updN_n (by omega)
            have eC : ∀ p, uCn V (updN A dep c') (dep + 1) p = uCn V A dep p + (if uPl V c' = p then 1 else 0) := by
              intro p
              show uCn V (updN A dep c') dep p + (if decide (uPl V (updN A dep c' dep) = p) then 1 else 0) = _
              rw [uCd_cg e', updN_s]
              by_cases z : uPl V c' = p
              · rw [if_pos z, if_pos (decide_eq_true z)]
              · rw [if_neg z, if_neg (by rw [decide_eq_true_eq]; exact z)]
            have N4 : cNet m4 n P T tk pt fi := hN.fr (T4.fr (F := fun _ _ => False) (N := gwN c) (fun _ z => by unfold pkA at z; unfold gwN; omega) (fun _ _ z => Or.inr (Or.inl z.1))) hn (fun _ => id)
            have eK : kyN s t (dep + 1) (updN A dep (c' + 1)) = kyN s t (dep + 1) (updN A dep c') + bw (dep + 1) := by rw [bl_ky hd3, bl_ky hd3, Nat.add_mul, Nat.one_mul, Nat.add_assoc]
            refine ev_upast (U := V) (by omega) T4.wt (T4.ob hO) hcV hV80 gV.2.1 oV (U4.2.1.2.1 c' hcV).2 (fun e he => (U4.1.2.2.2 e he).2.1) ?_
            refine bk131_134 T4.wt (T4.ob hO) (T4.ob hN.1) (T4.ob hO) (T4.ob hN.1) ?_
            rw [nx_orN, ← eUn, ← eN, nIinc]
            refine ih (dep + 1) (updN A dep c') V m4 (d - 1) _ (by omega) (by omega) T4.wt (T4.ob hO) N4 R1 ((S1.pv hPv).up (by omega) hri z'.2.1 z'.2.2 f5) D1 U4 (fun i hi => ?_) (fun p hp => ?_) ?_ ?_
            · rw [p4]
              by_cases q : i = dep
              · rw [q, up_s, updN_s]
              · rw [up_n q, updN_n q, p1 i (by omega)]; exact hpk i (by omega)
            · rw [q4, eC]
              by_cases q : p = uPl V c'
              · rw [q, up_s, if_pos rfl, Nat.sub_sub]
              · rw [up_n q, if_neg (fun z => q z.symm), Nat.add_zero, q1 p hp, S1.cn hAo]; exact hms p hp
            · intro m5 V5 t5 R5 S5 D5 U5 p5 q5
              have T5 := T4.tr t5
              have h5V : ∀ k, k < oc → k < uC V5 := fun k hk => Nat.lt_of_lt_of_le hk R5.2.2.1
              have c75 : m5.2.2.1 (64 * c + 7) c' = nI (uPl V c') := by rw [(U5.2.1.2.1 c' (h5V c' (by omega))).1, (S5 c' (by omega)).1]
              refine bk131_138 T5.wt (T5.ob hO) (T5.ob hN.1) ?_
              rw [nI_clamp (show c' < 2 ^ 31 by omega), c75, nI_clamp (show uPl V c' < 2 ^ 31 by omega)]
              refine ⟨(nIin_iff (by omega)).mpr (by omega), (nIin_iff (by omega)).mpr (by omega), (nIin_iff (by omega)).mpr (by omega), ?_⟩
              intro m6 h6 w hw
              subst hw
              have e5 : m5.2.2.1 (64 * c + 11) (uPl V c') = nI (tk t (uPl V c') - uCn V A dep (uPl V c') - 1) := by rw [q5 _ (by omega), q4, up_s]
              rw [e5, nIinc, Nat.sub_add_cancel (by omega)] at h6
              rw [nIinc, eUn]
              refine nxt m6 V5 (by rw [h6]; exact T5.sI (by unfold pkA; omega)) R5 (S1.tr S5) (by rw [eK]; exact D5) (by rw [h6]; exact ucA_pk U5 (Or.inl rfl)) (fun i hi => ?_) (fun p hp => ?_) (fun k hk7 => ?_)
              · rw [h6, rdI_ne (by omega), p5 i (by omega), p4, up_n (by omega)]; exact p1 i hi
              · rw [h6, rdI_same]
                by_cases q : p = uPl V c'
                · rw [q, up_s, ← e11]; exact q1 _ (by omega)
                · rw [up_n q, q5 p hp, q4, up_n q]; exact q1 p hp
              · rw [h6, rdI_ne (by omega), (U5.2.1.2.1 k (h5V k hk7)).1, (S5 k hk7).1, ← (v2.2.1 k (Nat.lt_of_lt_of_le hk7 R1.2.2.1)).1]; exact z1 k hk7
            · intro m5 t5 z3 gr z75
              have T5 := T4.tr t5
              have c75 : m5.2.2.1 (64 * c + 7) c' = nI (uPl V c') := by rw [z75 c' (by omega), z4]; exact (v2.2.1 c' hcV).1
              refine bk131_138 T5.wt (T5.ob hO) (T5.ob hN.1) ?_
              rw [nI_clamp (show c' < 2 ^ 31 by omega), c75, nI_clamp (show uPl V c' < 2 ^ 31 by omega)]
              refine ⟨(nIin_iff (by omega)).mpr (by omega), (nIin_iff (by omega)).mpr (by omega), (nIin_iff (by omega)).mpr (by omega), ?_⟩
              intro m6 h6 w hw
              have T6 : mTo (pkA c) (aeF c) m m6 := by rw [h6]; exact T5.sI (by unfold pkA; omega)
              have z6 : iF m6 c 3 = 1 := by rw [h6, iF_I]; exact z3
              have q := hQ2 m6 T6 z6 gr (fun k hk7 => by rw [h6, rdI_ne (by omega), z75 k hk7, z4 k]; exact z1 k hk7)
              exact bk131_66 T6.wt (T6.ob hO) (T6.ob hN.1) ⟨fun _ => q, fun _ => ⟨fun _ => q, fun z => absurd z6 (fun w => z (by rw [w]; decide))⟩⟩
    refine bk131_0 hT hO hN.1 ⟨fun z => absurd ((nIle (by omega) (by omega)).mp z) (by omega), fun _ => ⟨fun _ => ⟨fun z => ?_, fun z => ?_⟩, fun z => absurd ((nI_ltI (b := 3) (by omega) (by omega)).mpr hd3) z⟩⟩
    · have hd0 : 0 < dep := Nat.pos_of_ne_zero (fun q => z (by rw [q]; rfl))
      have hl := hPv.1 (dep - 1) (by omega)
      rw [nIdec hd0, nI_clamp (by omega), hpk (dep - 1) (by omega)]
      refine ⟨(nIin_iff (by omega)).mpr (by omega), ?_⟩
      rintro w rfl
      rw [nIinc]
      refine loop (oc - (A (dep - 1) + 1)) (A (dep - 1) + 1) m U _ (by omega) (fun i hi => ?_) (mTo.rf hT) hRo uSm.rf (dn_from hd3 (by omega) hA128 hdn hRo.1.2.2.2.1 hDn _ (by omega) (fun c2 hc2 f => by have := f.2.1 (dep - 1) (by omega); omega)) hU (fun _ _ => rfl) (fun _ _ => rfl) (fun _ _ => rfl)
      by_cases q : i = dep - 1
      · rw [q]; omega
      · have := hPv.2.1 i (dep - 1) (by omega) (by omega); omega
    · have hd0 : dep = 0 := by
        have z' := Classical.not_not.mp z
        exact (nIeq0 (by omega)).mp z'
      subst hd0
      exact loop oc 0 m U _ (by omega) (fun i hi => by omega) (mTo.rf hT) hRo uSm.rf (dn_from hd3 (by omega) hA128 hdn hRo.1.2.2.2.1 hDn 0 (by omega) (fun c2 hc2 => by omega)) hU (fun _ _ => rfl) (fun _ _ => rfl) (fun _ _ => rfl)
end CPK
