/-! The unfolding, in plain terms: the beginning and the end. -/
section UNF7
variable {P T o : Nat} {tk pt : Nat → Nat → Nat} {mk A : Nat → Nat} {tn : Nat → Nat} {U V W : uS}
theorem uCo_0 (hE : uE W = 0) {a b : Nat} (ha : uOr W a = 0) (hb : uOr W b = 0) : uCo tn W a b ↔ a ≠ b := by
  have nh : ∀ x f, ¬ uHb tn W x f := fun x f z => by have := z.1; omega
  refine ⟨fun h => h.1, fun h => ⟨h, fun f z => absurd z (nh _ f), fun f z => absurd z (nh _ f), fun f g z1 _ => ?_⟩⟩
  unfold uPo at z1
  rw [if_pos ha, if_pos hb, Nat.or_self, Nat.zero_testBit] at z1
  cases z1
theorem un_ltE (g : uGd P T tk U) : ∀ k, (∀ i, i < k → A i < uC U) → uUn U A k < 2 ^ uE U := by
  intro k
  induction k with
  | zero => intro _; exact Nat.pow_pos (by decide)
  | succ k ih =>
    intro h
    refine Nat.or_lt_two_pow (ih (fun i hi => h i (by omega))) ?_
    have hA := h k (by omega)
    have h1 := g.1.1 (A k) hA
    show uPo U (A k) < _
    unfold uPo
    by_cases q : uOr U (A k) = 0
    · rw [if_pos q]; exact Nat.pow_pos (by decide)
    · rw [if_neg q]; exact (g.1.2.1 _ (by omega)).1
/-- no event is greater than all events and itself -/
theorem uCd_sz (g : uGd P T tk U) {L : Nat} (h : uCd P T tk pt mk U L) : kSz L ≤ uE U + 1 := by
  rw [h.2.2.2]
  unfold uSz
  have h1 := un_ltE g (tnS P tk (kTr L)) h.2.2.1.1.2.1
  have h2 := g.2.1
  rw [pc_ct h1 (by omega)]
  have := fb_ct_le (fun i => (uUn U (kAt L) (tnS P tk (kTr L))).testBit i) (uE U)
  omega
theorem uRe.fin (g : uGd P T tk U) (r : uRe P T tk pt mk U) {s : Nat} (d : uDn P T tk pt mk U (s * 33554432)) (hs : uE U + 1 < s) : uZ P T tk pt mk = U := by
  refine r.z (Or.inr (Or.inr (d.end (fun L hL hc => ?_))))
  have := uCd_sz g hc
  unfold kSz at this
  omega
/-- at the beginning nothing is there, and nothing of size 0 can come -/
theorem uDn_0 (hE : uE U = 0) : uDn P T tk pt mk U (1 * 33554432) := by
  refine ⟨fun J hJ hc => ?_, fun J _ ht => ?_⟩
  · have := hc.2.2.2
    unfold uSz kSz at this
    omega
  · obtain ⟨e, he, _⟩ := ht
    omega
end UNF7
