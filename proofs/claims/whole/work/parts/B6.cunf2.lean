/-! The class Unfolding: conditions come. -/
/-- the object holds the conditions of V, and which can hold at once -/
def ucC (tn : Nat → Nat) (m : mMem) (c : Nat) (V : uS) : Prop := iF m c 2 = nI (uC V) ∧ (∀ k, k < uC V → m.2.2.1 (64 * c + 7) k = nI (uPl V k) ∧ m.2.2.1 (64 * c + 8) k = ogV (uOr V k)) ∧ (∀ x y, x < uC V → y < 96 → (tg (m.2.2.1 (64 * c + 9)) x y ↔ y < uC V ∧ uCo tn V x y))
def acA (c j : Nat) : Prop := j = 64 * c + 7 ∨ j = 64 * c + 8 ∨ j = 64 * c + 9
def acF (c k f : Nat) : Prop := k = c ∧ (f = 2 ∨ f = 3)
section CUN2
variable {tn : Nat → Nat} {P d c o p n : Nat} {U0 V W : uS} {m : mMem} {Q : Option Value → mMem → Prop}
theorem uCo_mo (h : uMo P o V W) (hW : uC W ≤ 80) {a b : Nat} (ha : a < uC V) (hb : b < uC V) : uCo tn W a b ↔ uCo tn V a b := by
  obtain ⟨h1, h2, h3, h4, h5, h6, h7⟩ := h
  obtain ⟨b1, b2⟩ := h7 hW
  have eH : uHb tn W = uHb tn V := by
    funext x f
    unfold uHb
    rw [h1, h2, h4]
  have eA : uAg tn W = uAg tn V := by
    funext f g
    unfold uAg
    rw [eH]
  have eP : ∀ x, x < uC V → uPo W x = uPo V x := by
    intro x hx
    unfold uPo
    rw [(b1 x hx).2, h3]
  unfold uCo uCf
  rw [eH, eA, eP a ha, eP b hb]
theorem uAc_81 (h : uC V = 81) : uC (uAc V p o) = 81 := by
  unfold uAc
  rw [if_neg (by omega)]
theorem uAn_81 (h : uC V = 81) : ∀ k, uC (uAn V p o k) = 81 := by
  intro k
  induction k with
  | zero => exact h
  | succ k ih => exact uAc_81 ih
theorem uAn_add (i : Nat) : ∀ k, uAn V p o (i + k) = uAn (uAn V p o i) p o k := by
  intro k
  induction k with
  | zero => rfl
  | succ k ih =>
    show uAc (uAn V p o (i + k)) p o = uAc (uAn (uAn V p o i) p o k) p o
    rw [ih]
theorem ev_addCond (hd : 4 ≤ d) (hT : mWT m) (hO : m.1 c = some (.inr 7) ∧ c ≠ 0) (hp : p < P) (hP : P ≤ 10) (hn : n < 100) (ho : o < 100) (hM : uMo P o U0 V) (hV : uC V ≤ 80) (hR : ucC tn m c V) (h3 : iF m c 3 = 0) (hor : ∀ k, k < uC V → uOr V k < 100)
    (hJ : ∀ W, uMo P o U0 W → uC W ≤ 80 → ∀ k y, uC U0 ≤ k → k < uC W → y < k → (uCo tn W k y ↔ (uOr W y = o ∨ bsd (m.2.2.1 (64 * c + 13)) y)))
    (hQ1 : ∀ m', mTo (acA c) (acF c) m m' → iF m' c 3 = 0 → uC (uAn V p o n) ≤ 80 → ucC tn m' c (uAn V p o n) → Q none m')
    (hQ2 : ∀ m', mTo (acA c) (acF c) m m' → iF m' c 3 = 1 → uC (uAn V p o n) = 81 → (∀ k, k < uC V → m'.2.2.1 (64 * c + 7) k = m.2.2.1 (64 * c + 7) k) → Q none m') : mEv d 126 [.ref c, .int (nI p), .int (nI n), .int (ogV o)] m Q := by
  refine mEv.at (by omega) G126 (Nat.le_of_ble_eq_true rfl) ?_
  refine bk126_0 hT hO ?_
  have bad : ∀ i m1, i ≤ n → uC (uAn V p o i) = 81 → mTo (acA c) (acF c) m m1 → iF m1 c 3 = 1 → (∀ k, k < uC V → m1.2.2.1 (64 * c + 7) k = m.2.2.1 (64 * c + 7) k) → mEs (d - 1) 126 c g126 (3, [some (.ref c), some (.int (nI p)), some (.int (nI n)), some (.int (ogV o)), some (.int (nI i))], [], m1) Q := by
    intro i m1 hi h81 T1 z3 z7
    have e : uC (uAn V p o n) = 81 := by
      have := uAn_81 (p := p) (o := o) h81 (n - i)
      rw [← uAn_add, show i + (n - i) = n by omega] at this
      exact this
    have q := hQ2 m1 T1 z3 e z7
    refine bk126_3 T1.wt (T1.ob hO) ⟨fun _ => q, fun _ => ⟨fun _ => q, fun z => absurd z3 (fun w => z (by rw [w]; decide))⟩⟩
  have main : ∀ k i m1, k + i = n → uC (uAn V p o i) ≤ 80 → mTo (acA c) (acF c) m m1 → iF m1 c 3 = 0 → ucC tn m1 c (uAn V p o i) → (∀ k, k < uC V → m1.2.2.1 (64 * c + 7) k = m.2.2.1 (64 * c + 7) k) → mEs (d - 1) 126 c g126 (3, [some (.ref c), some (.int (nI p)), some (.int (nI n)), some (.int (ogV o)), some (.int (nI i))], [], m1) Q := by
    intro k
    induction k with
    | zero =>
      intro i m1 hi hC T1 z3 R z7
      obtain rfl : i = n := by omega
      exact bk126_3 T1.wt (T1.ob hO) ⟨fun _ => hQ1 m1 T1 z3 hC R, fun z => absurd ((nIle (by omega) (by omega)).mpr (Nat.le_refl _)) z⟩
    | succ k ih =>
      intro i m1 hi hC T1 z3 R z7
      have Mi : uMo P o V (uAn V p o i) := uAn_mo (by omega) hp i
      have eW : uAn V p o (i + 1) = uAc (uAn V p o i) p o := rfl
      have Ms : uMo P o (uAn V p o i) (uAc (uAn V p o i) p o) := uAc_mo (by omega) hp
      have M0 := (hM.tr Mi).tr Ms
      generalize hW : uAn V p o i = W at *
      obtain ⟨r1, r2, r3⟩ := id R
      refine bk126_3 T1.wt (T1.ob hO) ?_
      rw [r1, z3]
      refine ⟨fun z => absurd ((nIle (by omega) (by omega)).mp z) (by omega), fun _ => ⟨fun z => absurd rfl z, fun _ => ⟨fun z => ?_, fun z => ?_⟩⟩⟩
      · have z8 : uC W < 80 := by rw [show (80 : Int32) = nI 80 from rfl, nI_ltI (by omega) (by omega)] at z; exact z
        refine ⟨(nIin_iff (by omega)).mpr (by omega), ?_⟩
        rintro m2 rfl
        rw [iF_I, r1]
        refine ⟨(nIin_iff (by omega)).mpr (by omega), ?_⟩
        rintro m3 rfl
        rw [iF_I, iF_I, r1, nI_clamp (by omega)]
        have T3 := (T1.sI (g := upd (m1.2.2.1 (64 * c + 7)) (uC W) (nI p)) (k := 64 * c + 7) (Or.inl rfl)).sI (g := upd ((mSetI m1 (64 * c + 7) (upd (m1.2.2.1 (64 * c + 7)) (uC W) (nI p))).2.2.1 (64 * c + 8)) (uC W) (ogV o)) (k := 64 * c + 8) (Or.inr (Or.inl rfl))
        have hog : ∀ j, j < uC W → (mSetI (mSetI m1 (64 * c + 7) (upd (m1.2.2.1 (64 * c + 7)) (uC W) (nI p))) (64 * c + 8) (upd ((mSetI m1 (64 * c + 7) (upd (m1.2.2.1 (64 * c + 7)) (uC W) (nI p))).2.2.1 (64 * c + 8)) (uC W) (ogV o))).2.2.1 (64 * c + 8) j = ogV (uOr W j) := by
          intro j hj
          rw [rdI_same, up_n (by omega), rdI_ne (by omega)]
          exact (r2 j hj).2
        have oW : ∀ j, j < uC W → uOr W j < 100 := by
          intro j hj
          obtain ⟨w1, w2⟩ := Mi.2.2.2.2.2.2 hC
          by_cases q : j < uC V
          · rw [(w1 j q).2]; exact hor j q
          · rw [(w2 j (by omega) hj).2]; exact ho
        refine ev_joinOthers (by omega) T3.wt (T3.ob hO) z8 ho hog oW ?_
        intro m4 T4 h4
        have T4' : mTo (acA c) (acF c) m m4 := T3.tr (T4.mono (fun j e => Or.inr (Or.inr e)) (fun _ _ e => e.elim))
        refine bk126_62 T4'.wt (T4'.ob hO) ?_
        rintro m5 rfl v rfl
        have c2 : iF m4 c 2 = nI (uC W) := by rw [T4.nf id, iF_I, iF_I, r1]
        rw [c2, nIinc, nIinc]
        have T5 := T4'.sF (v := nI (uC W + 1)) hO (f := 2) ⟨rfl, Or.inl rfl⟩ (by decide)
        have eC : uC (uAc W p o) = uC W + 1 := by unfold uAc; rw [if_pos z8]
        have eL : ∀ j, uPl (uAc W p o) j = updN (uPl W) (uC W) p j := fun j => by unfold uAc; rw [if_pos z8]
        have eO : ∀ j, uOr (uAc W p o) j = updN (uOr W) (uC W) o j := fun j => by unfold uAc; rw [if_pos z8]
        have hU0 : uC U0 ≤ uC W := (hM.tr Mi).2.2.2.2.1
        have hVW : uC V ≤ uC W := Mi.2.2.2.2.1
        refine ih (i + 1) _ (by omega) (by rw [eW, eC]; omega) T5 ?_ ?_ (fun k hk7 => by rw [rI_F, T4.i (by omega), rdI_ne (by omega), rdI_same, up_n (by omega)]; exact z7 k hk7)
        · rw [iF_nf (by decide), T4.nf id, iF_I, iF_I, z3]
        · rw [eW]
          refine ⟨by rw [iF_s, eC], fun j hj => ?_, fun x y hx hy => ?_⟩
          · rw [eC] at hj
            rw [eL, eO, rI_F, rI_F, T4.i (by omega), T4.i (by omega)]
            by_cases q : j = uC W
            · subst q
              rw [updN_s, updN_s, rdI_ne (by omega), rdI_same, rdI_same, up_s, up_s]
              exact ⟨rfl, rfl⟩
            · rw [updN_n q, updN_n q, rdI_ne (by omega), rdI_same, rdI_same, up_n q, up_n q, rdI_ne (by omega)]
              exact r2 j (by omega)
          · rw [eC] at hx
            rw [rI_F, h4 x y (by omega) hy, rdI_ne (by omega), rdI_ne (by omega), rdI_ne (by omega), rdI_ne (by omega), T1.i (by unfold acA; omega), eC]
            have hC' : uC (uAc W p o) ≤ 80 := by rw [eC]; omega
            have old := fun (a b : Nat) (ha : a < uC W) (hb : b < uC W) => uCo_mo (tn := tn) Ms hC' ha hb
            have nw := fun (b : Nat) (hb : b < uC W) => hJ _ M0 hC' (uC W) b hU0 (by rw [eC]; omega) hb
            have oo : ∀ b, b < uC W → uOr (uAc W p o) b = uOr W b := fun b hb => by rw [eO, updN_n (by omega)]
            by_cases q : x = uC W
            · subst q
              constructor
              · rintro (⟨_, h1, h2⟩ | ⟨h1, _⟩)
                · exact ⟨by omega, (nw y h1).mpr (by rw [oo y h1]; exact h2)⟩
                · exact absurd rfl h1
              · rintro ⟨h1, h2⟩
                have hy2 : y < uC W := by
                  have := h2.1
                  omega
                exact Or.inl ⟨rfl, hy2, by rw [← oo y hy2]; exact (nw y hy2).mp h2⟩
            · have hx2 : x < uC W := by omega
              constructor
              · rintro (⟨h1, _⟩ | ⟨_, h1 | ⟨h1, h2, h3⟩⟩)
                · exact absurd h1 q
                · obtain ⟨w1, w2⟩ := (r3 x y hx2 hy).mp h1
                  exact ⟨by omega, (old x y hx2 w1).mpr w2⟩
                · subst h1
                  exact ⟨by omega, ((nw x h2).mpr (by rw [oo x h2]; exact h3)).sy⟩
              · rintro ⟨h1, h2⟩
                by_cases z : y = uC W
                · subst z
                  exact Or.inr ⟨q, Or.inr ⟨rfl, hx2, by rw [← oo x hx2]; exact (nw x hx2).mp h2.sy⟩⟩
                · have hy2 : y < uC W := by omega
                  exact Or.inr ⟨q, Or.inl ((r3 x y hx2 hy).mpr ⟨hy2, (old x y hx2 hy2).mp h2⟩)⟩
      · have z8 : ¬ uC W < 80 := by rw [show (80 : Int32) = nI 80 from rfl, nI_ltI (by omega) (by omega)] at z; exact z
        rintro m2 rfl v rfl
        rw [nIinc]
        refine bad (i + 1) _ (by omega) ?_ (T1.sF hO ⟨rfl, Or.inr rfl⟩ (by decide)) iF_s z7
        rw [eW]
        unfold uAc
        rw [if_neg z8]
  exact main n 0 m (by omega) hV (mTo.rf hT) h3 hR (fun _ _ => rfl)
end CUN2
