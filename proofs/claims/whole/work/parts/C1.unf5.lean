/-! The unfolding, in plain terms: picking conditions one by one. -/
/-- a condition more fits behind those picked -/
def uFit (P : Nat) (tk pt : Nat → Nat → Nat) (mk : Nat → Nat) (U : uS) (s t : Nat) (A : Nat → Nat) (dep c : Nat) : Prop := c < uC U ∧ (∀ i, i < dep → A i < c) ∧ uFre P tk pt mk U c ∧ (∀ i, i < dep → uCo (tnS P tk) U (A i) c) ∧ uCn U A dep (uPl U c) < tk t (uPl U c) ∧ pcN (uUn U A dep ||| uPo U c) < s
/-- those picked are the beginning of an event -/
def uPv (P : Nat) (tk pt : Nat → Nat → Nat) (mk : Nat → Nat) (U : uS) (t : Nat) (A : Nat → Nat) (dep oc : Nat) : Prop := (∀ i, i < dep → A i < oc) ∧ (∀ i j, i < j → j < dep → A i < A j) ∧ (∀ i j, i < j → j < dep → uCo (tnS P tk) U (A i) (A j)) ∧ (∀ i, i < dep → uFre P tk pt mk U (A i)) ∧ (∀ p, p < P → uCn U A dep p ≤ tk t p)
section UNF5
variable {P T s t dep L oc n : Nat} {tk pt : Nat → Nat → Nat} {mk A : Nat → Nat} {U : uS}
theorem cnt_sum (h : ∀ i, i < n → uPl U (A i) < P) : fb_sm (fun p => uCn U A n p) P = n := by
  induction n with
  | zero =>
    show fb_sm (fun _ => 0) P = 0
    rw [fb_sm_const, Nat.mul_zero]
  | succ n ih =>
    have e : (fun p => uCn U A (n + 1) p) = fun p => if p = uPl U (A n) then uCn U A n (uPl U (A n)) + 1 else uCn U A n p := by
      funext p
      unfold uCn
      rw [fb_ct_succ]
      by_cases q : p = uPl U (A n)
      · rw [if_pos q, ← q, if_pos (decide_eq_true rfl)]
      · rw [if_neg q, if_neg (by rw [decide_eq_true_eq]; exact fun z => q z.symm)]
        rfl
    have u := fb_sm_upd (fun p => uCn U A n p) (uCn U A n (uPl U (A n)) + 1) (h n (by omega))
    rw [e]
    have := ih (fun i hi => h i (by omega))
    omega
theorem sm_all {f g : Nat → Nat} (h : ∀ p, p < P → f p ≤ g p) (e : fb_sm f P = fb_sm g P) : ∀ p, p < P → f p = g p := by
  induction P with
  | zero => intro p hp; omega
  | succ P ih =>
    intro p hp
    rw [fb_sm_succ, fb_sm_succ] at e
    have h1 := fb_sm_le (n := P) (fun k hk => h k (by omega))
    have h2 := h P (by omega)
    by_cases q : p = P
    · subst q; omega
    · exact ih (fun p hp => h p (by omega)) (by omega) p (by omega)
theorem uCd_cg {A B : Nat → Nat} (h : ∀ i, i < n → A i = B i) (p : Nat) : uCn U A n p = uCn U B n p := fb_ct_cong (fun i hi => by rw [h i hi])
/-- all are picked: an event that can come -/
theorem leaf_cd (h : uPv P tk pt mk U t A (tnS P tk t) oc) (h0 : 0 < tnS P tk t) (h3 : tnS P tk t ≤ 3) (hoc : oc ≤ uC U) (hC : uC U ≤ 80) (ht : t < T) (hT : T ≤ 10) (hpl : ∀ c, c < uC U → uPl U c < P) (hs : pcN (uUn U A (tnS P tk t)) + 1 = s) : uCd P T tk pt mk U (kyN s t (tnS P tk t) A) := by
  obtain ⟨a1, a2, a3, a4, a5⟩ := h
  have hA : ∀ i, i < tnS P tk t → A i < 128 := fun i hi => by have := a1 i hi; omega
  have eS := ky_s (s := s) (show t < 16 by omega) hA
  have eT := ky_t (s := s) (show t < 16 by omega) hA
  have eA : ∀ i, i < tnS P tk t → kAt (kyN s t (tnS P tk t) A) i = A i := fun i hi => by rw [ky_a (by omega) hA h3, if_pos hi]
  have cn : ∀ p, p < P → uCn U A (tnS P tk t) p = tk t p := by
    refine sm_all a5 ?_
    rw [cnt_sum (fun i hi => hpl _ (by have := a1 i hi; omega))]
    rfl
  unfold uCd
  rw [eT, eS]
  refine ⟨ht, fun i hi => ?_, ⟨⟨h0, fun i hi => ?_, fun i j hi hj => ?_⟩, fun i j hi hj => ?_, fun i hi => ?_, fun p hp => ?_⟩, ?_⟩
  · rw [ky_a (by omega) hA h3, if_neg (by omega)]
  · rw [eA i hi]; have := a1 i hi; omega
  · rw [eA i (by omega), eA j hj]; exact a3 i j hi hj
  · rw [eA i (by omega), eA j hj]; exact a2 i j hi hj
  · rw [eA i hi]; exact a4 i hi
  · rw [uCd_cg eA]; exact cn p hp
  · unfold uSz
    rw [uUn_cg _ eA]; exact hs.symm
/-- all are picked: nothing else begins so -/
theorem leaf_no (h3 : tnS P tk t ≤ 3) (ht : t < 16) (hA : ∀ i, i < tnS P tk t → A i < 128) (h1 : kyN s t (tnS P tk t) A ≤ L) (h2 : L < kyN s t (tnS P tk t) A + bw (tnS P tk t)) (hc : uCd P T tk pt mk U L) : L = kyN s t (tnS P tk t) A ∧ 0 < tnS P tk t ∧ pcN (uUn U A (tnS P tk t)) + 1 = s := by
  obtain ⟨b1, b2, b3⟩ := bl_in h3 ht hA h1 h2
  obtain ⟨c1, c2, c3, c4⟩ := hc
  rw [b2] at c2 c3 c4
  refine ⟨?_, c3.1.1, ?_⟩
  · refine ky_eq (by rw [b1, ky_s ht hA]) (by rw [b2, ky_t ht hA]) (fun i hi => ?_)
    rw [ky_a ht hA h3]
    by_cases q : i < tnS P tk t
    · rw [if_pos q]; exact b3 i q
    · rw [if_neg q]; exact c2 i (by omega)
  · rw [b1] at c4
    unfold uSz at c4
    rw [c4, uUn_cg _ b3]
/-- where one does not fit, nothing that begins so can come -/
theorem no_fit (hd : dep < 3) (ht : t < 16) (hA : ∀ i, i < dep → A i < 128) {c : Nat} (hc : c < 128) (hdn : dep < tnS P tk t) (hpl : ∀ c, c < uC U → uPl U c < P) (nf : ¬ uFit P tk pt mk U s t A dep c) (h1 : kyN s t (dep + 1) (updN A dep c) ≤ L) (h2 : L < kyN s t (dep + 1) (updN A dep c) + bw (dep + 1)) : ¬ uCd P T tk pt mk U L := by
  intro h
  obtain ⟨b1, b2, b3⟩ := bl_in (by omega) ht (updN_lt hA hc) h1 h2
  obtain ⟨f1, f2, f3, f4, f5, f6⟩ := h.fit b1 b2 hdn (fun i hi => b3 i (by omega)) hpl
  rw [updN_s] at f1 f2 f3 f4 f5
  have e : ∀ i, i < dep → updN A dep c i = A i := fun i hi => updN_n (by omega)
  refine nf ⟨f1, fun i hi => by rw [← e i hi]; exact f2 i hi, f3, fun i hi => by rw [← e i hi]; exact f4 i hi, by rw [← uCd_cg e]; exact f5, ?_⟩
  have e2 : uUn U (updN A dep c) (dep + 1) = uUn U A dep ||| uPo U c := by
    show uUn U (updN A dep c) dep ||| uPo U (updN A dep c dep) = _
    rw [uUn_cg _ e, updN_s]
  rw [← e2]; exact f6
theorem dn_run (hd : dep < 3) (ht : t < 16) (hA : ∀ i, i < dep → A i < 128) (hdn : dep < tnS P tk t) (hpl : ∀ c, c < uC U → uPl U c < P) {a : Nat} (h : uDn P T tk pt mk U (kyN s t (dep + 1) (updN A dep a))) : ∀ k, a + k ≤ 128 → (∀ c, a ≤ c → c < a + k → ¬ uFit P tk pt mk U s t A dep c) → uDn P T tk pt mk U (kyN s t (dep + 1) (updN A dep (a + k))) := by
  intro k
  induction k with
  | zero => intro _ _; exact h
  | succ k ih =>
    intro hk nf
    have d := ih (by omega) (fun c h1 h2 => nf c h1 (by omega))
    have e : kyN s t (dep + 1) (updN A dep (a + (k + 1))) = kyN s t (dep + 1) (updN A dep (a + k)) + bw (dep + 1) := by
      rw [bl_ky hd, bl_ky hd, show a + (k + 1) = (a + k) + 1 by omega, Nat.add_mul, Nat.one_mul, Nat.add_assoc]
    rw [e]
    exact d.up (by omega) (fun L h1 h2 => no_fit hd ht hA (show a + k < 128 by omega) hdn hpl (nf (a + k) (by omega) (by omega)) h1 h2)
/-- the first that may be picked -/
theorem dn_from (hd : dep < 3) (ht : t < 16) (hA : ∀ i, i < dep → A i < 128) (hdn : dep < tnS P tk t) (hpl : ∀ c, c < uC U → uPl U c < P) (h : uDn P T tk pt mk U (kyN s t dep A)) (f : Nat) (hf : f ≤ 128) (nf : ∀ c, c < f → ¬ uFit P tk pt mk U s t A dep c) : uDn P T tk pt mk U (kyN s t (dep + 1) (updN A dep f)) := by
  have h0 : uDn P T tk pt mk U (kyN s t (dep + 1) (updN A dep 0)) := by rw [bl_ky hd, Nat.zero_mul, Nat.add_zero]; exact h
  have := dn_run hd ht hA hdn hpl h0 f (by omega) (fun c _ h2 => nf c (by omega))
  rw [Nat.zero_add] at this
  exact this
/-- all have been looked at -/
theorem dn_end (hd : dep < 3) (ht : t < 16) (hA : ∀ i, i < dep → A i < 128) (hdn : dep < tnS P tk t) (hpl : ∀ c, c < uC U → uPl U c < P) {a : Nat} (ha : a ≤ 128) (h : uDn P T tk pt mk U (kyN s t (dep + 1) (updN A dep a))) (nf : ∀ c, a ≤ c → ¬ uFit P tk pt mk U s t A dep c) : uDn P T tk pt mk U (kyN s t dep A + bw dep) := by
  have := dn_run hd ht hA hdn hpl h (128 - a) (by omega) (fun c h1 _ => nf c h1)
  rw [show a + (128 - a) = 128 by omega, bl_ky hd, ← bw_s hd] at this
  exact this
end UNF5
