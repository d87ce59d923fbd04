/-! The class Unfolding: an event comes. -/
theorem ogV_s {e : Nat} : ogV (e + 1) = nI e := if_neg (by omega)
theorem or_sh {x e : Nat} (he : e < 31) : nI x ||| ((1 : Int32) <<< nI e) = nI (2 ^ e ||| x) := by
  refine b_ext fun i hi => ?_
  rw [b_or, bt_nI hi, sh1b e (by omega) i hi, bt_nI hi, Nat.testBit_or, Nat.testBit_two_pow, Bool.or_comm]
  congr 1
  by_cases q : i = e
  · rw [decide_eq_true q, decide_eq_true q.symm]
  · rw [decide_eq_false q, decide_eq_false (fun z => q z.symm)]
/-- the object holds the events of U -/
def ucE (P : Nat) (tk pt : Nat → Nat → Nat) (mk : Nat → Nat) (m : mMem) (c : Nat) (U : uS) : Prop := iF m c 1 = nI (uE U) ∧ iF m c 17 = nI P ∧ (∀ p, p < 10 → m.2.2.1 (64 * c + 10) p = nI (mk p)) ∧ ∀ e, e < uE U → m.2.2.1 (64 * c + 2) e = nI (uBy U e) ∧ m.2.2.1 (64 * c + 3) e = nI (uPa U e) ∧ m.2.2.1 (64 * c + 4) e = bz (uCu P tk pt mk U e) ∧ m.2.2.1 (64 * c + 6) e = nI (tnS P tk (uBy U e)) ∧ (∀ i, i < tnS P tk (uBy U e) → m.2.2.1 (64 * c + 5) (e * 3 + i) = nI (uHs U e i)) ∧ ∀ p, p < P → m.2.2.1 (64 * c + 1) (e * 10 + p) = uLf tk pt mk U e p
def aeA (c j : Nat) : Prop := (64 * c + 1 ≤ j ∧ j ≤ 64 * c + 9) ∨ j = 64 * c + 13
def aeF (c k f : Nat) : Prop := k = c ∧ (f = 1 ∨ f = 2 ∨ f = 3)
section CUN5
variable {P T d c n e K o : Nat} {tk pt : Nat → Nat → Nat} {fi mk A : Nat → Nat} {U V W : uS} {m m' : mMem} {Q : Option Value → mMem → Prop}
theorem lfN_eq (h1 : uBy V = uBy W) (h2 : uPa V = uPa W) (p : Nat) : ∀ k, lfN tk pt mk V e p k = lfN tk pt mk W e p k := by
  intro k
  induction k with
  | zero => rfl
  | succ k ih =>
    show lfN tk pt mk V e p k + _ = lfN tk pt mk W e p k + _
    rw [ih, h1, h2]
theorem uLf_eq (h1 : uBy V = uBy W) (h2 : uPa V = uPa W) (e p : Nat) : uLf tk pt mk V e p = uLf tk pt mk W e p := lfN_eq h1 h2 p _
theorem uCu_eq (h1 : uBy V = uBy W) (h2 : uPa V = uPa W) (e : Nat) : uCu P tk pt mk V e ↔ uCu P tk pt mk W e := by
  unfold uCu
  rw [h2]
  simp only [uLf_eq h1 h2]
theorem ucE_mo (h : ucE P tk pt mk m c V) (M : uMo P o V W) : ucE P tk pt mk m c W := by
  obtain ⟨a1, a2, a3, a4⟩ := h
  obtain ⟨b1, b2, b3, b4, _⟩ := M
  refine ⟨by rw [b1]; exact a1, a2, a3, fun e he => ?_⟩
  rw [b1] at he
  obtain ⟨c1, c2, c3, c4, c5, c6⟩ := a4 e he
  refine ⟨by rw [b2]; exact c1, by rw [b3]; exact c2, ?_, by rw [b2]; exact c4, ?_, fun p hp => ?_⟩
  · rw [bz_cg (uCu_eq b2 b3 e)]; exact c3
  · rw [b2, b4]; exact c5
  · rw [uLf_eq b2 b3]; exact c6 p hp
theorem ucE_to (h : ucE P tk pt mk m c V) (T1 : mTo (acA c) (acF c) m m') : ucE P tk pt mk m' c V := by
  obtain ⟨a1, a2, a3, a4⟩ := h
  unfold ucE
  rw [T1.nf (by unfold acF; omega), T1.nf (by unfold acF; omega), T1.i (by unfold acA; omega), T1.i (by unfold acA; omega), T1.i (by unfold acA; omega), T1.i (by unfold acA; omega), T1.i (by unfold acA; omega), T1.i (by unfold acA; omega), T1.i (by unfold acA; omega)]
  exact ⟨a1, a2, a3, a4⟩
theorem ev_addBad {p : Nat} {v w : Int32} (hd : 1 ≤ d) (hT : mWT m) (hO : m.1 c = some (.inr 7) ∧ c ≠ 0) (h3 : iF m c 3 = 1) (hQ : Q none m) : mEv d 126 [.ref c, .int (nI p), .int v, .int w] m Q := by
  refine mEv.at (by omega) G126 (Nat.le_of_ble_eq_true rfl) ?_
  refine bk126_0 hT hO ?_
  exact bk126_3 hT hO ⟨fun _ => hQ, fun _ => ⟨fun _ => hQ, fun z => absurd h3 (fun w => z (by rw [w]; decide))⟩⟩
/-- conditions of one origin come, place by place -/
theorem uAp_81 {g : Nat → Nat} {p : Nat} (h : uC (uAp V g o p) = 81) : ∀ k, uC (uAp V g o (p + k)) = 81 := by
  intro k
  induction k with
  | zero => exact h
  | succ k ih => exact uAn_81 ih _
/-- which of the earlier ones a new condition can hold with -/
theorem new_J (h : uGd P T tk U) (hK : uCd P T tk pt mk U K) {f : Nat → Int32} (hf : ∀ y, y < uC U → (bsd f y ↔ ∀ i, i < tnS P tk (kTr K) → uCo (tnS P tk) U (kAt K i) y)) :
    ∀ W, uMo P (uE U + 1) (uEv P tk U K) W → uC W ≤ 80 → ∀ k y, uC (uEv P tk U K) ≤ k → k < uC W → y < k → (uCo (tnS P tk) W k y ↔ (uOr W y = uE U + 1 ∨ bsd f y)) := by
  intro W M hW k y h1 h2 h3
  obtain ⟨x, _, _⟩ := uEv_xt M hW
  have v := hK.2.2.1.1
  by_cases q : y < uC U
  · rw [x.new h.1 v h1 h2 q, ← hf y q]
    have e1 : uOr W y ≠ uE U + 1 := by
      rw [x.2.2.2.2.2.2.1 y q]
      have := h.1.1 y q
      omega
    exact ⟨Or.inr, fun z => z.elim (fun z => absurd z e1) id⟩
  · exact ⟨fun _ => Or.inl (x.2.2.2.2.2.2.2 y (by omega) (by omega)), fun _ => x.both h.1 v h1 h2 (by omega) (by omega) (by omega)⟩
theorem ev_addEvent (hd : 6 ≤ d) (hT : mWT m) (hO : m.1 c = some (.inr 7) ∧ c ≠ 0) (hN : cNet m n P T tk pt fi) (hk : okNet P T tk pt fi) (hn : ∀ a, gwN n a → ¬ gwN c a) (hn9 : ∀ t, t < T → tnS P tk t ≤ 3) (hG : uGd P T tk U) (hE : ucE P tk pt mk m c U) (hC : ucC (tnS P tk) m c U) (h3 : iF m c 3 = 0) (hK : uCd P T tk pt mk U K) (hn3 : tnS P tk (kTr K) ≤ 3) (hpk : ∀ i, i < tnS P tk (kTr K) → m.2.2.1 (64 * c + 12) i = nI (kAt K i))
    (hQ1 : ∀ m', mTo (aeA c) (aeF c) m m' → uE U < 30 → iF m' c 3 = 0 → uC (uAd P tk pt U K) ≤ 80 → ucE P tk pt mk m' c (uAd P tk pt U K) → ucC (tnS P tk) m' c (uAd P tk pt U K) → Q none m')
    (hQ2 : ∀ m', mTo (aeA c) (aeF c) m m' → iF m' c 3 = 1 → (uE U < 30 ∧ uC (uAd P tk pt U K) = 81) ∨ uE U = 30 → (∀ k, k < uC U → m'.2.2.1 (64 * c + 7) k = m.2.2.1 (64 * c + 7) k) → Q none m') : mEv d 132 [.ref c, .ref n, .int (nI (kTr K)), .int (nI (tnS P tk (kTr K))), .int (nI (uUn U (kAt K) (tnS P tk (kTr K))))] m Q := by
  obtain ⟨g1, g2, g3, g4, g5⟩ := id hG
  obtain ⟨e1, e2, e3, e4⟩ := id hE
  have hP10 := hk.1
  have hT10 := hk.2.1
  have v := hK.2.2.1.1
  have hkT := hK.1
  have hnc : n ≠ c := fun e => hn n (Or.inl rfl) (Or.inl e)
  refine mEv.at (by omega) G132 (Nat.le_of_ble_eq_true rfl) ?_
  refine bk132_0 hT hO hN.1 (by omega) ?_
  rw [e1, show (30 : Int32) = nI 30 from rfl, nI_ltI (by omega) (by omega)]
  refine ⟨fun hE30 => ?_, fun hE30 => ?_⟩
  · intro v1 hv1 m2 h2
    subst hv1
    have T2 : mTo (aeA c) (aeF c) m m2 := by rw [h2]; exact (mTo.rf hT).sF hO ⟨rfl, by omega⟩ (by decide)
    have f21 : iF m2 c 1 = nI (uE U + 1) := by rw [h2, iF_s, nIinc]
    have f2 : ∀ f, f ≠ 1 → iF m2 c f = iF m c f := fun f hf => by rw [h2, iF_nf hf]
    have A2 : ∀ a, m2.2.2.1 a = m.2.2.1 a := fun a => by rw [h2]; rfl
    clear h2
    refine ⟨(nIin_iff (by omega)).mpr (by omega), ?_⟩
    intro m4 h4
    rw [nI_clamp (by omega), A2] at h4
    have T4 : mTo (aeA c) (aeF c) m m4 := by rw [h4]; exact T2.sI (by unfold aeA; omega)
    have B42 : m4.2.2.1 (64 * c + 2) = upd (m.2.2.1 (64 * c + 2)) (uE U) (nI (kTr K)) := by rw [h4, rdI_same]
    have B4 : ∀ a, a ≠ 64 * c + 2 → m4.2.2.1 a = m.2.2.1 a := fun a ha => by rw [h4, rdI_ne ha, A2]
    have f4 : ∀ f, iF m4 c f = iF m2 c f := fun f => by rw [h4]; rfl
    clear h4
    refine ⟨(nIin_iff (by omega)).mpr (by omega), ?_⟩
    intro m6 h6
    rw [nI_clamp (by omega), B4 _ (by omega), and31 _ (by omega), Nat.mod_eq_of_lt (show uE U < 32 by omega), or_sh (by omega)] at h6
    have T6 : mTo (aeA c) (aeF c) m m6 := by rw [h6]; exact T4.sI (by unfold aeA; omega)
    have B63 : m6.2.2.1 (64 * c + 3) = upd (m.2.2.1 (64 * c + 3)) (uE U) (nI (2 ^ uE U ||| uUn U (kAt K) (tnS P tk (kTr K)))) := by rw [h6, rdI_same]
    have B6 : ∀ a, a ≠ 64 * c + 3 → m6.2.2.1 a = m4.2.2.1 a := fun a ha => by rw [h6, rdI_ne ha]
    have f6 : ∀ f, iF m6 c f = iF m2 c f := fun f => by rw [h6, iF_I, f4]
    clear h6
    refine ⟨(nIin_iff (by omega)).mpr (by omega), ?_⟩
    intro m8 h8
    rw [nI_clamp (by omega), B6 _ (by omega), B4 _ (by omega)] at h8
    have T8 : mTo (aeA c) (aeF c) m m8 := by rw [h8]; exact T6.sI (by unfold aeA; omega)
    have B86 : m8.2.2.1 (64 * c + 6) = upd (m.2.2.1 (64 * c + 6)) (uE U) (nI (tnS P tk (kTr K))) := by rw [h8, rdI_same]
    have B8 : ∀ a, a ≠ 64 * c + 6 → m8.2.2.1 a = m6.2.2.1 a := fun a ha => by rw [h8, rdI_ne ha]
    have f8 : ∀ f, iF m8 c f = iF m2 c f := fun f => by rw [h8, iF_I, f6]
    clear h8
    rw [l3, nI_mul, nI_clamp (by omega), nI_clamp (by omega), c0c, nIlt0 (by omega), nIlt0 (by omega)]
    refine ⟨⟨by decide, id, id, by omega, by omega⟩, ?_⟩
    intro m10 h10
    rw [B8 _ (by omega), B6 _ (by omega), B4 _ (by omega), B8 _ (by omega), B6 _ (by omega), B4 _ (by omega)] at h10
    have T10 : mTo (aeA c) (aeF c) m m10 := by rw [h10]; exact T8.sI (by unfold aeA; omega)
    have C5 : m10.2.2.1 (64 * c + 5) = va_cpy (m.2.2.1 (64 * c + 12)) (m.2.2.1 (64 * c + 5)) 0 (uE U * 3) (tnS P tk (kTr K)) := by rw [h10, rdI_same]
    have C10 : ∀ a, a ≠ 64 * c + 5 → m10.2.2.1 a = m8.2.2.1 a := fun a ha => by rw [h10, rdI_ne ha]
    have f10 : ∀ f, iF m10 c f = iF m2 c f := fun f => by rw [h10, iF_I, f8]
    clear h10
    have C2 : m10.2.2.1 (64 * c + 2) = upd (m.2.2.1 (64 * c + 2)) (uE U) (nI (kTr K)) := by rw [C10 _ (by omega), B8 _ (by omega), B6 _ (by omega), B42]
    have C3 : m10.2.2.1 (64 * c + 3) = upd (m.2.2.1 (64 * c + 3)) (uE U) (nI (2 ^ uE U ||| uUn U (kAt K) (tnS P tk (kTr K)))) := by rw [C10 _ (by omega), B8 _ (by omega), B63]
    have C6 : m10.2.2.1 (64 * c + 6) = upd (m.2.2.1 (64 * c + 6)) (uE U) (nI (tnS P tk (kTr K))) := by rw [C10 _ (by omega), B86]
    have C0 : ∀ a, a ≠ 64 * c + 2 → a ≠ 64 * c + 3 → a ≠ 64 * c + 5 → a ≠ 64 * c + 6 → m10.2.2.1 a = m.2.2.1 a := fun a q1 q2 q3 q4 => by rw [C10 a q3, B8 a q4, B6 a q2, B4 a q1]
    have x : uXt (tnS P tk) U (uEv P tk U K) (kTr K) (kAt K) := (uEv_xt (uMo.rf (U := uEv P tk U K) (show uC U ≤ 81 by omega)) g3).1
    have ok' := x.ok g1 v
    have yBo : ∀ f, f < uE U → uBy (uEv P tk U K) f = uBy U f := fun f hf => (x.2.2.1 f hf).1
    have yPo : ∀ f, f < uE U → uPa (uEv P tk U K) f = uPa U f := fun f hf => (x.2.2.1 f hf).2.1
    have yBe : uBy (uEv P tk U K) (uE U) = kTr K := x.2.2.2.1
    have yPe : uPa (uEv P tk U K) (uE U) = 2 ^ uE U ||| uUn U (kAt K) (tnS P tk (kTr K)) := x.2.2.2.2.1
    have D2 : ∀ f, f ≤ uE U → m10.2.2.1 (64 * c + 2) f = nI (uBy (uEv P tk U K) f) ∧ uBy (uEv P tk U K) f < T := by
      intro f hf
      rw [C2]
      by_cases q : f = uE U
      · rw [q, up_s, yBe]; exact ⟨rfl, hkT⟩
      · rw [up_n q, yBo f (by omega), (e4 f (by omega)).1]; exact ⟨rfl, g5 f (by omega)⟩
    have D3 : ∀ f, f ≤ uE U → m10.2.2.1 (64 * c + 3) f = nI (uPa (uEv P tk U K) f) ∧ uPa (uEv P tk U K) f < 2 ^ 31 := by
      intro f hf
      have h31 : uPa (uEv P tk U K) f < 2 ^ 31 := Nat.lt_of_lt_of_le (ok'.2.1 f (by show f < uE U + 1; omega)).1 (Nat.pow_le_pow_right (by decide) (show uE U + 1 ≤ 31 by omega))
      refine ⟨?_, h31⟩
      rw [C3]
      by_cases q : f = uE U
      · rw [q, up_s, yPe]
      · rw [up_n q, yPo f (by omega), (e4 f (by omega)).2.1]
    have fr : ∀ {m1}, mTo (aeA c) (aeF c) m m1 → cNet m1 n P T tk pt fi := fun T1 => hN.fr (T1.fr (F := fun _ _ => False) (N := gwN c) (fun _ z => by unfold aeA at z; unfold gwN; omega) (fun _ _ z => Or.inr (Or.inl z.1))) hn (fun _ => id)
    have st10 : ∀ p, p < 10 → m10.2.2.1 (64 * c + 10) p = nI (mk p) := fun p hp => by rw [C0 _ (by omega) (by omega) (by omega) (by omega)]; exact e3 p hp
    refine ev_leave (U := uEv P tk U K) (mk := mk) (by omega) T10.wt (T10.ob hO) (fr T10) hk hnc (by rw [f10, f2 _ (by decide)]; exact e2) hE30 D2 (D3 _ (Nat.le_refl _)).1 st10 ?_
    intro m11 t11 L1 L2
    have T11 : mTo (aeA c) (aeF c) m m11 := T10.tr (t11.mono (fun j z => by unfold aeA; omega) (fun _ _ z => z.elim))
    have A11 : ∀ a, a ≠ 64 * c + 1 → m11.2.2.1 a = m10.2.2.1 a := fun a ha => t11.i ha
    have f11 : ∀ f, iF m11 c f = iF m2 c f := fun f => by rw [t11.nf id, f10]
    have L3 : ∀ f, f ≤ uE U → ∀ p, p < P → m11.2.2.1 (64 * c + 1) (f * 10 + p) = uLf tk pt mk (uEv P tk U K) f p := by
      intro f hf p hp
      by_cases q : f = uE U
      · rw [q]; exact L1 p hp
      · rw [L2 _ (by omega), C0 _ (by omega) (by omega) (by omega) (by omega), uLf_xt x (by omega)]
        exact (e4 f (by omega)).2.2.2.2.2 p hp
    refine bk132_85 T11.wt (T11.ob hO) (T11.ob hN.1) ?_
    refine ev_isCut (U := uEv P tk U K) (mk := mk) (tk := tk) (pt := pt) (by omega) T11.wt (T11.ob hO) (by rw [f11, f2 _ (by decide)]; exact e2) hP10 hE30 (fun f hf => by rw [A11 _ (by omega)]; exact D3 f hf) (fun p hp => by rw [A11 _ (by omega)]; exact st10 p hp) L3 ?_
    refine bk132_97 T11.wt (T11.ob hO) (T11.ob hN.1) (T11.wt.arr (T11.ob hO) 3 rfl (by decide)) ⟨(nIin_iff (by omega)).mpr (by omega), bz_01 _, ?_⟩
    intro m12 h12
    rw [nI_clamp (by omega), A11 _ (by omega), C0 _ (by omega) (by omega) (by omega) (by omega)] at h12
    have T12 : mTo (aeA c) (aeF c) m m12 := by rw [h12]; exact T11.sI (by unfold aeA; omega)
    have E4 : m12.2.2.1 (64 * c + 4) = upd (m.2.2.1 (64 * c + 4)) (uE U) (bz (uCu P tk pt mk (uEv P tk U K) (uE U))) := by rw [h12, rdI_same]
    have E0 : ∀ a, a ≠ 64 * c + 4 → m12.2.2.1 a = m11.2.2.1 a := fun a ha => by rw [h12, rdI_ne ha]
    have f12 : ∀ f, iF m12 c f = iF m2 c f := fun f => by rw [h12, iF_I, f11]
    clear h12
    refine ev_gather (A := kAt K) (by omega) T12.wt (T12.ob hO) hn3 (fun i hi => ⟨by rw [E0 _ (by omega), A11 _ (by omega), C0 _ (by omega) (by omega) (by omega) (by omega)]; exact hpk i hi, by have := v.2.1 i hi; omega⟩) ?_
    intro m13 t13 hbs
    have T13 : mTo (aeA c) (aeF c) m m13 := T12.tr (t13.mono (fun j z => by unfold aeA; omega) (fun _ _ z => z.elim))
    have A13 : ∀ a, a ≠ 64 * c + 13 → m13.2.2.1 a = m12.2.2.1 a := fun a ha => t13.i ha
    have f13 : ∀ f, iF m13 c f = iF m2 c f := fun f => by rw [t13.nf id, f12]
    have ld : ∀ a, a ≠ 64 * c + 1 → a ≠ 64 * c + 2 → a ≠ 64 * c + 3 → a ≠ 64 * c + 4 → a ≠ 64 * c + 5 → a ≠ 64 * c + 6 → a ≠ 64 * c + 13 → m13.2.2.1 a = m.2.2.1 a := fun a q1 q2 q3 q4 q5 q6 q7 => by rw [A13 a q7, E0 a q4, A11 a q1, C0 a q2 q3 q5 q6]
    have hb13 : ∀ y, y < uC U → (bsd (m13.2.2.1 (64 * c + 13)) y ↔ ∀ i, i < tnS P tk (kTr K) → uCo (tnS P tk) U (kAt K i) y) := by
      intro y hy
      rw [hbs y (by omega), E0 _ (by omega), A11 _ (by omega), C0 _ (by omega) (by omega) (by omega) (by omega)]
      exact ⟨fun q i hi => ((hC.2.2 _ y (v.2.1 i hi) (by omega)).mp (q i hi)).2, fun q i hi => (hC.2.2 _ y (v.2.1 i hi) (by omega)).mpr ⟨hy, q i hi⟩⟩
    have E13 : ucE P tk pt mk m13 c (uEv P tk U K) := by
      refine ⟨by rw [f13]; exact f21, by rw [f13, f2 _ (by decide)]; exact e2, fun p hp => by rw [ld _ (by omega) (by omega) (by omega) (by omega) (by omega) (by omega) (by omega)]; exact e3 p hp, fun f hf => ?_⟩
      have hf2 : f < uE U + 1 := hf
      refine ⟨?_, ?_, ?_, ?_, ?_, ?_⟩
      · rw [A13 _ (by omega), E0 _ (by omega), A11 _ (by omega)]; exact (D2 f (by omega)).1
      · rw [A13 _ (by omega), E0 _ (by omega), A11 _ (by omega)]; exact (D3 f (by omega)).1
      · rw [A13 _ (by omega), E4]
        by_cases q : f = uE U
        · rw [q, up_s]
        · rw [up_n q, bz_cg (uCu_xt x (by omega))]; exact (e4 f (by omega)).2.2.1
      · rw [A13 _ (by omega), E0 _ (by omega), A11 _ (by omega), C6]
        by_cases q : f = uE U
        · rw [q, up_s, yBe]
        · rw [up_n q, yBo f (by omega)]; exact (e4 f (by omega)).2.2.2.1
      · intro i hi
        rw [A13 _ (by omega), E0 _ (by omega), A11 _ (by omega), C5]
        by_cases q : f = uE U
        · rw [q, yBe] at hi
          rw [q, cp_in (by omega) (by omega), Nat.zero_add, Nat.add_sub_cancel_left, x.2.2.2.2.2.1 i hi]
          exact hpk i hi
        · have hf3 : f < uE U := by omega
          rw [yBo f hf3] at hi
          have h3 : tnS P tk (uBy U f) ≤ 3 := hn9 _ (g5 f hf3)
          rw [cp_out (by omega), (x.2.2.1 f hf3).2.2]
          exact (e4 f hf3).2.2.2.2.1 i hi
      · intro p hp
        rw [A13 _ (by omega), E0 _ (by omega)]; exact L3 f (by omega) p hp
    have R13 : ucC (tnS P tk) m13 c (uEv P tk U K) := by
      obtain ⟨r1, r2, r3⟩ := hC
      refine ⟨by rw [f13, f2 _ (by decide)]; exact r1, fun k hk' => ?_, fun a b ha hb => ?_⟩
      · rw [ld _ (by omega) (by omega) (by omega) (by omega) (by omega) (by omega) (by omega), ld _ (by omega) (by omega) (by omega) (by omega) (by omega) (by omega) (by omega)]
        exact r2 k hk'
      · rw [ld _ (by omega) (by omega) (by omega) (by omega) (by omega) (by omega) (by omega), r3 a b ha hb]
        exact ⟨fun z => ⟨z.1, (x.old g1 ha z.1).mpr z.2⟩, fun z => ⟨z.1, (x.old g1 ha z.1).mp z.2⟩⟩
    have c3 : iF m13 c 3 = 0 := by rw [f13, f2 _ (by decide)]; exact h3
    refine bk132_103 T13.wt (T13.ob hO) (T13.ob hN.1) ?_
    have loop : ∀ j p m1, j + p = P → mTo (acA c) (acF c) m13 m1 → ((iF m1 c 3 = 0 ∧ uC (uAp (uEv P tk U K) (pt (kTr K)) (uE U + 1) p) ≤ 80 ∧ ucC (tnS P tk) m1 c (uAp (uEv P tk U K) (pt (kTr K)) (uE U + 1) p)) ∨ (iF m1 c 3 = 1 ∧ uC (uAp (uEv P tk U K) (pt (kTr K)) (uE U + 1) p) = 81)) → (∀ k, k < uC U → m1.2.2.1 (64 * c + 7) k = m.2.2.1 (64 * c + 7) k) → mEs (d - 1) 132 c g132 (106, [some (.ref c), some (.ref n), some (.int (nI (kTr K))), some (.int (nI (tnS P tk (kTr K)))), some (.int (nI (uUn U (kAt K) (tnS P tk (kTr K))))), some (.int (nI (uE U))), some (.int (nI p))], [], m1) Q := by
      intro j
      induction j with
      | zero =>
        intro p m1 hp t1 h z7
        obtain rfl : p = P := by omega
        have T1 : mTo (aeA c) (aeF c) m m1 := T13.tr (t1.mono (fun j z => by unfold acA at z; unfold aeA; omega) (fun k f z => by unfold acF at z; unfold aeF; omega))
        have c17 : iF m1 c 17 = nI p := by rw [t1.nf (by unfold acF; omega), f13, f2 _ (by decide)]; exact e2
        refine bk132_106 T1.wt (T1.ob hO) (T1.ob hN.1) ?_
        rw [c17]
        refine ⟨fun _ => ?_, fun z => absurd ((nIle (by omega) (by omega)).mpr (Nat.le_refl _)) z⟩
        rcases h with ⟨q1, q2, q3⟩ | ⟨q1, q2⟩
        · exact hQ1 m1 T1 hE30 q1 q2 (ucE_mo (ucE_to E13 t1) (uAd_mo (by omega))) q3
        · exact hQ2 m1 T1 q1 (Or.inl ⟨hE30, q2⟩) z7
      | succ j ih =>
        intro p m1 hp t1 h z7
        have T1 : mTo (aeA c) (aeF c) m m1 := T13.tr (t1.mono (fun j z => by unfold acA at z; unfold aeA; omega) (fun k f z => by unfold acF at z; unfold aeF; omega))
        have c17 : iF m1 c 17 = nI P := by rw [t1.nf (by unfold acF; omega), f13, f2 _ (by decide)]; exact e2
        have N1 := fr T1
        have hpt := hk.2.2.2.1 (kTr K) p
        refine bk132_106 T1.wt (T1.ob hO) (T1.ob hN.1) ?_
        rw [c17, nIle (by omega) (by omega), l10, nI_mul, nI_add, nI_clamp (by omega), N1.2.2.2.2.1 (kTr K) (by omega) p (by omega)]
        refine ⟨fun z => by omega, fun _ => ⟨(nIin_iff (by omega)).mpr (by omega), ?_⟩⟩
        have M : uMo P (uE U + 1) (uEv P tk U K) (uAp (uEv P tk U K) (pt (kTr K)) (uE U + 1) p) := uAp_mo (P := P) (U := uEv P tk U K) (show uC U ≤ 81 by omega) p (by omega)
        have nx : ∀ m2, mTo (acA c) (acF c) m13 m2 → ((iF m2 c 3 = 0 ∧ uC (uAp (uEv P tk U K) (pt (kTr K)) (uE U + 1) (p + 1)) ≤ 80 ∧ ucC (tnS P tk) m2 c (uAp (uEv P tk U K) (pt (kTr K)) (uE U + 1) (p + 1))) ∨ (iF m2 c 3 = 1 ∧ uC (uAp (uEv P tk U K) (pt (kTr K)) (uE U + 1) (p + 1)) = 81)) → (∀ k, k < uC U → m2.2.2.1 (64 * c + 7) k = m.2.2.1 (64 * c + 7) k) → mEs (d - 1) 132 c g132 (135, [some (.ref c), some (.ref n), some (.int (nI (kTr K))), some (.int (nI (tnS P tk (kTr K)))), some (.int (nI (uUn U (kAt K) (tnS P tk (kTr K))))), some (.int (nI (uE U))), some (.int (nI p))], [], m2) Q := by
          intro m2 t2 q w7
          have T2 : mTo (aeA c) (aeF c) m m2 := T13.tr (t2.mono (fun j z => by unfold acA at z; unfold aeA; omega) (fun k f z => by unfold acF at z; unfold aeF; omega))
          refine bk132_135 T2.wt (T2.ob hO) (T2.ob hN.1) ?_
          rintro w rfl
          rw [nIinc]
          exact ih (p + 1) m2 (by omega) t2 q w7
        rcases h with ⟨q1, q2, q3⟩ | ⟨q1, q2⟩
        · rw [← ogV_s]
          refine ev_addCond (P := P) (U0 := uEv P tk U K) (by omega) T1.wt (T1.ob hO) (by omega) hP10 (by omega) (by omega) M q2 q3 q1 (fun k hk' => ?_) ?_ (fun m2 t2 w1 w2 w3 => ?_) (fun m2 t2 w1 w2 w7 => ?_)
          · obtain ⟨y1, y2⟩ := M.2.2.2.2.2.2 q2
            by_cases z : k < uC U
            · rw [(y1 k z).2]
              have := g1.1 k z
              show uOr U k < 100
              omega
            · rw [(y2 k (by show uC U ≤ k; omega) hk').2]; omega
          · rw [t1.i (by unfold acA; omega)]
            exact new_J hG hK hb13
          · refine nx m2 (t1.tr t2) (Or.inl ⟨w1, w2, w3⟩) (fun k hk7 => ?_)
            have M2 : uMo P (uE U + 1) (uEv P tk U K) (uAp (uEv P tk U K) (pt (kTr K)) (uE U + 1) (p + 1)) := uAp_mo (P := P) (U := uEv P tk U K) (show uC U ≤ 81 by omega) (p + 1) (by omega)
            have hle : uC U ≤ uC (uAp (uEv P tk U K) (pt (kTr K)) (uE U + 1) (p + 1)) := M2.2.2.2.2.1
            have y := (M2.2.2.2.2.2.2 w2).1 k hk7
            rw [(w3.2.1 k (Nat.lt_of_lt_of_le hk7 hle)).1, (hC.2.1 k hk7).1]
            show nI (uPl (uAp (uEv P tk U K) (pt (kTr K)) (uE U + 1) (p + 1)) k) = _
            rw [y.1]
            rfl
          · have hle : uC U ≤ uC (uAp (uEv P tk U K) (pt (kTr K)) (uE U + 1) p) := M.2.2.2.2.1
            exact nx m2 (t1.tr t2) (Or.inr ⟨w1, w2⟩) (fun k hk7 => (w7 k (by omega)).trans (z7 k hk7))
        · refine ev_addBad (by omega) T1.wt (T1.ob hO) q1 ?_
          exact nx m1 t1 (Or.inr ⟨q1, uAp_81 q2 1⟩) z7
    exact loop P 0 m13 (by omega) (mTo.rf T13.wt) (Or.inl ⟨c3, g3, R13⟩) (fun k hk7 => by rw [ld _ (by omega) (by omega) (by omega) (by omega) (by omega) (by omega) (by omega)])
  · rintro m1 rfl
    exact hQ2 _ ((mTo.rf hT).sF hO ⟨rfl, by omega⟩ (by decide)) iF_s (Or.inr (by omega)) (fun _ _ => rfl)
end CUN5
