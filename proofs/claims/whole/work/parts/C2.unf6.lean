/-! The unfolding, in plain terms: a round of one size. -/
/-- a state in the round of size s, where the conditions below oc were there before -/
def uRo (P T : Nat) (tk pt : Nat → Nat → Nat) (mk : Nat → Nat) (s oc : Nat) (U : uS) : Prop := uGd P T tk U ∧ uRe P T tk pt mk U ∧ oc ≤ uC U ∧ (∀ c, oc ≤ c → c < uC U → s ≤ pcN (uPo U c))
def uGr (P T : Nat) (tk pt : Nat → Nat → Nat) (mk : Nat → Nat) : Prop := uC (uZ P T tk pt mk) = 81 ∨ uE (uZ P T tk pt mk) = 31
/-- what was there before stays -/
def uSm (P : Nat) (tk pt : Nat → Nat → Nat) (mk : Nat → Nat) (oc : Nat) (U V : uS) : Prop := ∀ c, c < oc → uPl V c = uPl U c ∧ uPo V c = uPo U c ∧ (uFre P tk pt mk V c ↔ uFre P tk pt mk U c) ∧ ∀ b, b < oc → (uCo (tnS P tk) V c b ↔ uCo (tnS P tk) U c b)
section UNF6
variable {P T s t dep oc n K : Nat} {tk pt : Nat → Nat → Nat} {mk A : Nat → Nat} {U V W : uS}
theorem uSm.rf : uSm P tk pt mk oc U U := fun _ _ => ⟨rfl, rfl, Iff.rfl, fun _ _ => Iff.rfl⟩
theorem uSm.tr (h1 : uSm P tk pt mk oc U V) (h2 : uSm P tk pt mk oc V W) : uSm P tk pt mk oc U W := fun c hc =>
  ⟨(h2 c hc).1.trans (h1 c hc).1, (h2 c hc).2.1.trans (h1 c hc).2.1, (h2 c hc).2.2.1.trans (h1 c hc).2.2.1, fun b hb => ((h2 c hc).2.2.2 b hb).trans ((h1 c hc).2.2.2 b hb)⟩
theorem uSm.cn (h : uSm P tk pt mk oc U V) (hA : ∀ i, i < n → A i < oc) (p : Nat) : uCn V A n p = uCn U A n p := fb_ct_cong (fun i hi => by rw [(h _ (hA i hi)).1])
theorem uSm.un (h : uSm P tk pt mk oc U V) : ∀ n, (∀ i, i < n → A i < oc) → uUn V A n = uUn U A n := by
  intro n
  induction n with
  | zero => intro _; rfl
  | succ n ih =>
    intro hA
    show uUn V A n ||| uPo V (A n) = uUn U A n ||| uPo U (A n)
    rw [ih (fun i hi => hA i (by omega)), (h _ (hA n (by omega))).2.1]
theorem uSm.pv (h : uSm P tk pt mk oc U V) (q : uPv P tk pt mk U t A dep oc) : uPv P tk pt mk V t A dep oc := by
  obtain ⟨a1, a2, a3, a4, a5⟩ := q
  exact ⟨a1, a2, fun i j hi hj => ((h _ (a1 i (by omega))).2.2.2 _ (a1 j hj)).mpr (a3 i j hi hj), fun i hi => (h _ (a1 i hi)).2.2.1.mpr (a4 i hi), fun p hp => by rw [h.cn a1]; exact a5 p hp⟩
/-- one more is picked -/
theorem uPv.up (q : uPv P tk pt mk U t A dep oc) {c : Nat} (hc : c < oc) (f2 : ∀ i, i < dep → A i < c) (f3 : uFre P tk pt mk U c) (f4 : ∀ i, i < dep → uCo (tnS P tk) U (A i) c) (f5 : uCn U A dep (uPl U c) < tk t (uPl U c)) : uPv P tk pt mk U t (updN A dep c) (dep + 1) oc := by
  obtain ⟨a1, a2, a3, a4, a5⟩ := q
  have e : ∀ i, i < dep → updN A dep c i = A i := fun i hi => updN_n (by omega)
  refine ⟨fun i hi => ?_, fun i j hi hj => ?_, fun i j hi hj => ?_, fun i hi => ?_, fun p hp => ?_⟩
  · by_cases z : i = dep
    · rw [z, updN_s]; exact hc
    · rw [e i (by omega)]; exact a1 i (by omega)
  · rw [e i (by omega)]
    by_cases z : j = dep
    · rw [z, updN_s]; exact f2 i (by omega)
    · rw [e j (by omega)]; exact a2 i j hi (by omega)
  · rw [e i (by omega)]
    by_cases z : j = dep
    · rw [z, updN_s]; exact f4 i (by omega)
    · rw [e j (by omega)]; exact a3 i j hi (by omega)
  · by_cases z : i = dep
    · rw [z, updN_s]; exact f3
    · rw [e i (by omega)]; exact a4 i (by omega)
  · have e1 : uCn U (updN A dep c) (dep + 1) p = uCn U A dep p + (if uPl U c = p then 1 else 0) := by
      show uCn U (updN A dep c) dep p + (if decide (uPl U (updN A dep c dep) = p) then 1 else 0) = _
      rw [uCd_cg e, updN_s]
      by_cases z : uPl U c = p
      · rw [if_pos z, if_pos (decide_eq_true z)]
      · rw [if_neg z, if_neg (by rw [decide_eq_true_eq]; exact z)]
    rw [e1]
    by_cases z : uPl U c = p
    · rw [if_pos z]; rw [z] at f5; omega
    · rw [if_neg z]; exact a5 p hp
/-- conditions that came in this round are in no event of this size -/
theorem uRo.nf (h : uRo P T tk pt mk s oc U) {c : Nat} (hc : oc ≤ c) : ¬ uFit P tk pt mk U s t A dep c := by
  intro f
  have h1 := h.2.2.2 c hc f.1
  have h2 := pc_mono (x := uPo U c) (y := uUn U A dep ||| uPo U c) (fun i q => bor.mpr (Or.inr q))
  have := f.2.2.2.2.2
  omega
/-- an event of the round comes -/
theorem uRo.st (h : uRo P T tk pt mk s oc U) (hK : uCd P T tk pt mk U K) (hs : kSz K = s) (hK2 : K < 1073741824) (d : uDn P T tk pt mk U K) (hn : ∀ t, t < T → tnS P tk t ≤ 3) (hE : uE U < 30) (hC : uC (uAd P tk pt U K) ≤ 80) : uRo P T tk pt mk s oc (uAd P tk pt U K) ∧ uSm P tk pt mk oc U (uAd P tk pt U K) ∧ uDn P T tk pt mk (uAd P tk pt U K) (K + 1) := by
  obtain ⟨g, r, o, z⟩ := h
  have g3 := g.2.2.1
  obtain ⟨x, x2, x3⟩ := uEv_xt (uAd_mo (P := P) (tk := tk) (pt := pt) (K := K) (U := U) (by omega)) hC
  have nx := d.nx hK hK2
  refine ⟨⟨(uAd_gd g hK hE).elim (fun q => by omega) id, r.st g3 hE nx hK2, by have := x.2.1; omega, fun c h1 h2 => ?_⟩, fun c hc => ⟨x2 c (by omega), x.po g.1 (by omega), uFre_xt x g.1 (by omega), fun b hb => x.old g.1 (by omega) (by omega)⟩, d.xt x g.1 x2 hK hn (by omega)⟩
  by_cases q : c < uC U
  · rw [x.po g.1 q]; exact z c h1 q
  · have e1 := x.poN (show uC U ≤ c by omega) h2
    have e2 : pcN (uPo (uAd P tk pt U K) c) = pcN (uUn U (kAt K) (tnS P tk (kTr K))) + 1 := by
      rw [e1]
      refine pc_up (by omega) (fun w => ?_)
      obtain ⟨u, hu, w⟩ := (orS_tb _ _ _).mp w
      have := (g.1.po (hK.2.2.1.1.2.1 u hu) w).2.2.2
      omega
    have e3 := hK.2.2.2
    unfold uSz at e3
    omega
theorem uRo.gr (h : uRo P T tk pt mk s oc U) (hK : uCd P T tk pt mk U K) (hK2 : K < 1073741824) (d : uDn P T tk pt mk U K) (q : (uE U < 30 ∧ uC (uAd P tk pt U K) = 81) ∨ uE U = 30) : uGr P T tk pt mk := by
  obtain ⟨g, r, o, z⟩ := h
  have g3 := g.2.2.1
  have nx := d.nx hK hK2
  rcases q with ⟨q1, q2⟩ | q
  · have r2 := r.st g3 q1 nx hK2
    have := r2.z (Or.inl q2)
    exact Or.inl (by rw [this]; exact q2)
  · exact Or.inr (r.gr g3 q (by omega))
end UNF6
