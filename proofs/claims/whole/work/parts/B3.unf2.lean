/-! The unfolding, in plain terms: which event comes next. An event that can come is a number: its size, its transition, its conditions as they rise. -/
def tnS (P : Nat) (tk : Nat → Nat → Nat) (t : Nat) : Nat := fb_sm (tk t) P
def lfN (tk pt : Nat → Nat → Nat) (mk : Nat → Nat) (U : uS) (e p : Nat) : Nat → Int32
  | 0 => nI (mk p)
  | f + 1 => lfN tk pt mk U e p f + (if (uPa U e).testBit f then nI (pt (uBy U f) p) - nI (tk (uBy U f) p) else 0)
def uLf (tk pt : Nat → Nat → Nat) (mk : Nat → Nat) (U : uS) (e p : Nat) : Int32 := lfN tk pt mk U e p (e + 1)
def uCu (P : Nat) (tk pt : Nat → Nat → Nat) (mk : Nat → Nat) (U : uS) (e : Nat) : Prop := (∀ p, p < P → uLf tk pt mk U e p = nI (mk p)) ∨ ∃ f, f < e ∧ pcN (uPa U f) < pcN (uPa U e) ∧ ∀ p, p < P → uLf tk pt mk U e p = uLf tk pt mk U f p
def uFre (P : Nat) (tk pt : Nat → Nat → Nat) (mk : Nat → Nat) (U : uS) (c : Nat) : Prop := uOr U c = 0 ∨ ¬ uCu P tk pt mk U (uOr U c - 1)
def uCn (U : uS) (A : Nat → Nat) (n p : Nat) : Nat := fb_ct (fun i => decide (uPl U (A i) = p)) n
def uVd (P : Nat) (tk pt : Nat → Nat → Nat) (mk : Nat → Nat) (U : uS) (t : Nat) (A : Nat → Nat) : Prop := uVb (tnS P tk) U t A ∧ (∀ i j, i < j → j < tnS P tk t → A i < A j) ∧ (∀ i, i < tnS P tk t → uFre P tk pt mk U (A i)) ∧ (∀ p, p < P → uCn U A (tnS P tk t) p = tk t p)
def uUn (U : uS) (A : Nat → Nat) (n : Nat) : Nat := orS (fun i => uPo U (A i)) n
def uSz (U : uS) (A : Nat → Nat) (n : Nat) : Nat := pcN (uUn U A n) + 1
def kAt (K i : Nat) : Nat := if i = 0 then K / 16384 % 128 else if i = 1 then K / 128 % 128 else if i = 2 then K % 128 else 0
def kTr (K : Nat) : Nat := K / 2097152 % 16
def kSz (K : Nat) : Nat := K / 33554432
def kyN (s t n : Nat) (A : Nat → Nat) : Nat := s * 33554432 + t * 2097152 + (if 0 < n then A 0 else 0) * 16384 + (if 1 < n then A 1 else 0) * 128 + (if 2 < n then A 2 else 0)
def uCd (P T : Nat) (tk pt : Nat → Nat → Nat) (mk : Nat → Nat) (U : uS) (K : Nat) : Prop := kTr K < T ∧ (∀ i, tnS P tk (kTr K) ≤ i → kAt K i = 0) ∧ uVd P tk pt mk U (kTr K) (kAt K) ∧ kSz K = uSz U (kAt K) (tnS P tk (kTr K))
def uTh (tn : Nat → Nat) (U : uS) (t : Nat) (A : Nat → Nat) : Prop := ∃ e, e < uE U ∧ uBy U e = t ∧ ∀ i, i < tn t → uHs U e i = A i
def uThK (P : Nat) (tk : Nat → Nat → Nat) (U : uS) (K : Nat) : Prop := uTh (tnS P tk) U (kTr K) (kAt K)
/-- the number of the event that comes next; 2 ^ 30 if none does -/
noncomputable def uNx (P T : Nat) (tk pt : Nat → Nat → Nat) (mk : Nat → Nat) (U : uS) : Nat := lsN (fun K => uCd P T tk pt mk U K ∧ ¬ uThK P tk U K) 1073741824
/-- all that can come below K is there; and what is there is below K -/
def uDn (P T : Nat) (tk pt : Nat → Nat → Nat) (mk : Nat → Nat) (U : uS) (K : Nat) : Prop := (∀ J, J < K → uCd P T tk pt mk U J → uThK P tk U J) ∧ (∀ J, uCd P T tk pt mk U J → uThK P tk U J → J < K)
section KEY
variable {s t n : Nat} {A : Nat → Nat}
theorem ky_s (ht : t < 16) (hA : ∀ i, i < n → A i < 128) : kSz (kyN s t n A) = s := by
  unfold kSz kyN
  have a0 : (if 0 < n then A 0 else 0) < 128 := by split <;> first | exact hA 0 (by assumption) | omega
  have a1 : (if 1 < n then A 1 else 0) < 128 := by split <;> first | exact hA 1 (by assumption) | omega
  have a2 : (if 2 < n then A 2 else 0) < 128 := by split <;> first | exact hA 2 (by assumption) | omega
  generalize (if 0 < n then A 0 else 0) = x0 at *
  generalize (if 1 < n then A 1 else 0) = x1 at *
  generalize (if 2 < n then A 2 else 0) = x2 at *
  omega
theorem ky_t (ht : t < 16) (hA : ∀ i, i < n → A i < 128) : kTr (kyN s t n A) = t := by
  unfold kTr kyN
  have a0 : (if 0 < n then A 0 else 0) < 128 := by split <;> first | exact hA 0 (by assumption) | omega
  have a1 : (if 1 < n then A 1 else 0) < 128 := by split <;> first | exact hA 1 (by assumption) | omega
  have a2 : (if 2 < n then A 2 else 0) < 128 := by split <;> first | exact hA 2 (by assumption) | omega
  generalize (if 0 < n then A 0 else 0) = x0 at *
  generalize (if 1 < n then A 1 else 0) = x1 at *
  generalize (if 2 < n then A 2 else 0) = x2 at *
  omega
theorem ky_a (ht : t < 16) (hA : ∀ i, i < n → A i < 128) (hn : n ≤ 3) (i : Nat) : kAt (kyN s t n A) i = if i < n then A i else 0 := by
  unfold kAt kyN
  have a0 : (if 0 < n then A 0 else 0) < 128 := by split <;> first | exact hA 0 (by assumption) | omega
  have a1 : (if 1 < n then A 1 else 0) < 128 := by split <;> first | exact hA 1 (by assumption) | omega
  have a2 : (if 2 < n then A 2 else 0) < 128 := by split <;> first | exact hA 2 (by assumption) | omega
  by_cases h0 : i = 0
  · subst h0
    rw [if_pos rfl]
    generalize (if 0 < n then A 0 else 0) = x0 at *
    generalize (if 1 < n then A 1 else 0) = x1 at *
    generalize (if 2 < n then A 2 else 0) = x2 at *
    omega
  · rw [if_neg h0]
    by_cases h1 : i = 1
    · subst h1
      rw [if_pos rfl]
      generalize (if 0 < n then A 0 else 0) = x0 at *
      generalize (if 1 < n then A 1 else 0) = x1 at *
      generalize (if 2 < n then A 2 else 0) = x2 at *
      omega
    · rw [if_neg h1]
      by_cases h2 : i = 2
      · subst h2
        rw [if_pos rfl]
        generalize (if 0 < n then A 0 else 0) = x0 at *
        generalize (if 1 < n then A 1 else 0) = x1 at *
        generalize (if 2 < n then A 2 else 0) = x2 at *
        omega
      · rw [if_neg h2, if_neg (by omega)]
/-- a number is told by its parts -/
theorem ky_eq {J K : Nat} (h1 : kSz J = kSz K) (h2 : kTr J = kTr K) (h3 : ∀ i, i < 3 → kAt J i = kAt K i) : J = K := by
  have a0 : J / 16384 % 128 = K / 16384 % 128 := h3 0 (by omega)
  have a1 : J / 128 % 128 = K / 128 % 128 := h3 1 (by omega)
  have a2 : J % 128 = K % 128 := h3 2 (by omega)
  unfold kSz at h1
  unfold kTr at h2
  omega
end KEY
section UNF2
variable {P T : Nat} {tk pt : Nat → Nat → Nat} {mk : Nat → Nat} {U U' : uS} {t c e f K J : Nat} {A : Nat → Nat}
/-- the event that comes next is the first that is found -/
theorem uDn.nx (h : uDn P T tk pt mk U K) (hc : uCd P T tk pt mk U K) (hK : K < 1073741824) : uNx P T tk pt mk U = K :=
  lsN_eq (Nat.le_of_lt hK) (fun _ => ⟨hc, fun z => Nat.lt_irrefl _ (h.2 K hc z)⟩) (fun j hj z => z.2 (h.1 j hj z.1))
theorem uDn.up (h : uDn P T tk pt mk U K) (hKJ : K ≤ J) (hn : ∀ L, K ≤ L → L < J → ¬ uCd P T tk pt mk U L) : uDn P T tk pt mk U J :=
  ⟨fun L hL hc => (Nat.lt_or_ge L K).elim (fun q => h.1 L q hc) (fun q => absurd hc (hn L q hL)), fun L hc ht => Nat.lt_of_lt_of_le (h.2 L hc ht) hKJ⟩
theorem uDn.end (h : uDn P T tk pt mk U K) (hn : ∀ L, K ≤ L → ¬ uCd P T tk pt mk U L) : uNx P T tk pt mk U = 1073741824 :=
  lsN_eq (Nat.le_refl _) (fun z => absurd z (Nat.lt_irrefl _)) (fun j _ z => z.2 (h.1 j (Nat.lt_of_not_le fun q => hn j q z.1) z.1))
-- what stays when an event comes
theorem lfN_xt (x : uXt (tnS P tk) U U' t A) (he : e < uE U) (p : Nat) : ∀ k, k ≤ uE U → lfN tk pt mk U' e p k = lfN tk pt mk U e p k := by
  intro k
  induction k with
  | zero => intro _; rfl
  | succ k ih =>
    intro hk
    show lfN tk pt mk U' e p k + _ = lfN tk pt mk U e p k + _
    rw [ih (by omega), (x.2.2.1 e he).2.1, (x.2.2.1 k (by omega)).1]
theorem uLf_xt (x : uXt (tnS P tk) U U' t A) (he : e < uE U) (p : Nat) : uLf tk pt mk U' e p = uLf tk pt mk U e p := lfN_xt x he p (e + 1) (by omega)
theorem uCu_xt (x : uXt (tnS P tk) U U' t A) (he : e < uE U) : uCu P tk pt mk U' e ↔ uCu P tk pt mk U e := by
  unfold uCu
  refine or_congr ⟨fun q p hp => by rw [← uLf_xt x he]; exact q p hp, fun q p hp => by rw [uLf_xt x he]; exact q p hp⟩ ⟨?_, ?_⟩
  · rintro ⟨f, hf, q1, q2⟩
    rw [(x.2.2.1 e he).2.1, (x.2.2.1 f (by omega)).2.1] at q1
    exact ⟨f, hf, q1, fun p hp => by rw [← uLf_xt x he, ← uLf_xt x (by omega)]; exact q2 p hp⟩
  · rintro ⟨f, hf, q1, q2⟩
    refine ⟨f, hf, ?_, fun p hp => by rw [uLf_xt x he, uLf_xt x (by omega)]; exact q2 p hp⟩
    rw [(x.2.2.1 e he).2.1, (x.2.2.1 f (by omega)).2.1]
    exact q1
theorem uFre_xt (x : uXt (tnS P tk) U U' t A) (h : uOk (tnS P tk) U) (hc : c < uC U) : uFre P tk pt mk U' c ↔ uFre P tk pt mk U c := by
  unfold uFre
  rw [x.2.2.2.2.2.2.1 c hc]
  have h1 := h.1 c hc
  by_cases q : uOr U c = 0
  · exact ⟨fun _ => Or.inl q, fun _ => Or.inl q⟩
  · rw [uCu_xt x (by omega)]
theorem uUn_xt (x : uXt (tnS P tk) U U' t A) (h : uOk (tnS P tk) U) {B : Nat → Nat} : ∀ n, (∀ i, i < n → B i < uC U) → uUn U' B n = uUn U B n := by
  intro n
  induction n with
  | zero => intro _; rfl
  | succ n ih =>
    intro hB
    show uUn U' B n ||| uPo U' (B n) = uUn U B n ||| uPo U (B n)
    rw [ih (fun i hi => hB i (by omega)), x.po h (hB n (by omega))]
theorem uCd_xt (x : uXt (tnS P tk) U U' t A) (h : uOk (tnS P tk) U) (pl : ∀ c, c < uC U → uPl U' c = uPl U c) (hA : ∀ i, i < tnS P tk (kTr J) → kAt J i < uC U) : uCd P T tk pt mk U' J ↔ uCd P T tk pt mk U J := by
  unfold uCd uVd uVb
  have x2 := x.2.1
  refine and_congr Iff.rfl (and_congr Iff.rfl (and_congr (and_congr (and_congr Iff.rfl (and_congr ⟨fun _ => hA, fun _ i hi => Nat.lt_of_lt_of_le (hA i hi) x2⟩ ⟨fun q i j h1 h2 => (x.old h (hA i (by omega)) (hA j h2)).mp (q i j h1 h2), fun q i j h1 h2 => (x.old h (hA i (by omega)) (hA j h2)).mpr (q i j h1 h2)⟩)) (and_congr Iff.rfl (and_congr ⟨fun q i hi => (uFre_xt x h (hA i hi)).mp (q i hi), fun q i hi => (uFre_xt x h (hA i hi)).mpr (q i hi)⟩ ?_))) ?_))
  · have e : ∀ p, uCn U' (kAt J) (tnS P tk (kTr J)) p = uCn U (kAt J) (tnS P tk (kTr J)) p := fun p => fb_ct_cong (fun i hi => by rw [pl _ (hA i hi)])
    exact ⟨fun q p hp => by rw [← e]; exact q p hp, fun q p hp => by rw [e]; exact q p hp⟩
  · unfold uSz
    rw [uUn_xt x h _ hA]
/-- what has one of the new conditions is greater -/
theorem pc_up {x e : Nat} (he : e < 32) (h : ¬ x.testBit e = true) : pcN (2 ^ e ||| x) = pcN x + 1 := by
  unfold pcN
  have e1 : (fun i => (2 ^ e ||| x).testBit i) = fun i => (decide (i = e)) || x.testBit i := by
    funext i
    rw [Nat.testBit_or, Nat.testBit_two_pow]
    by_cases q : i = e
    · rw [decide_eq_true q, decide_eq_true q.symm]
    · rw [decide_eq_false q, decide_eq_false (fun z => q z.symm)]
  rw [e1, fb_ct_or (fun k _ z => h (by rw [← of_decide_eq_true z.1]; exact z.2))]
  have e2 : fb_ct (fun i => decide (i = e)) 32 = 1 := by
    have := fb_ct_upd (fun _ => false) true (i := e) (n := 32) he
    have e3 : fb_ct (fun _ => false) 32 = 0 := fb_ct_zero.mpr (fun _ _ => rfl)
    rw [e3] at this
    have e4 : (fun k => if k = e then true else false) = fun i => decide (i = e) := by
      funext k
      by_cases q : k = e
      · rw [if_pos q, decide_eq_true q]
      · rw [if_neg q, decide_eq_false q]
    rw [e4] at this
    simpa using this
  rw [e2]
  exact Nat.add_comm _ _
theorem pc_mono {x y : Nat} (h : ∀ i, x.testBit i = true → y.testBit i = true) : pcN x ≤ pcN y := fb_ct_sub (fun k _ q => h k q)
theorem uCd_new (x : uXt (tnS P tk) U U' (kTr K) (kAt K)) (h : uOk (tnS P tk) U) (hK : uCd P T tk pt mk U K) (hE : uE U < 32) (hJ : uCd P T tk pt mk U' J) {i : Nat} (hi : i < tnS P tk (kTr J)) (hc : uC U ≤ kAt J i) : kSz K < kSz J := by
  obtain ⟨j1, j2, j3, j4⟩ := hJ
  obtain ⟨k1, k2, k3, k4⟩ := hK
  have hi2 := j3.1.2.1 i hi
  rw [j4, k4]
  unfold uSz
  have e1 := x.poN hc hi2
  have e2 : pcN (uPo U' (kAt J i)) = pcN (uUn U (kAt K) (tnS P tk (kTr K))) + 1 := by
    rw [e1]
    refine pc_up hE (fun z => ?_)
    obtain ⟨u, hu, w⟩ := (orS_tb _ _ _).mp z
    have := (h.po (k3.1.2.1 u hu) w).2.2.2
    omega
  have e3 : pcN (uPo U' (kAt J i)) ≤ pcN (uUn U' (kAt J) (tnS P tk (kTr J))) := pc_mono (fun k q => (orS_tb _ _ _).mpr ⟨i, hi, q⟩)
  omega
theorem kSz_mono (h : J ≤ K) : kSz J ≤ kSz K := Nat.div_le_div_right h
/-- an event comes: all that can come below its number and it are there -/
theorem uDn.xt (d : uDn P T tk pt mk U K) (x : uXt (tnS P tk) U U' (kTr K) (kAt K)) (h : uOk (tnS P tk) U) (pl : ∀ c, c < uC U → uPl U' c = uPl U c) (hK : uCd P T tk pt mk U K) (hn : ∀ t, t < T → tnS P tk t ≤ 3) (hE : uE U < 32) : uDn P T tk pt mk U' (K + 1) := by
  have old : ∀ J, J ≤ K → uCd P T tk pt mk U' J → ∀ i, i < tnS P tk (kTr J) → kAt J i < uC U := by
    intro J hJ hc i hi
    refine Nat.lt_of_not_le fun q => ?_
    have := uCd_new x h hK hE hc hi q
    have := kSz_mono hJ
    omega
  have thU : ∀ J, uThK P tk U J → uThK P tk U' J := by
    rintro J ⟨e, he, q1, q2⟩
    exact ⟨e, by rw [x.1]; omega, by rw [(x.2.2.1 e he).1]; exact q1, fun i hi => by rw [(x.2.2.1 e he).2.2]; exact q2 i hi⟩
  refine ⟨fun J hJ hc => ?_, fun J hc ht => ?_⟩
  · have hc0 := (uCd_xt x h pl (old J (by omega) hc)).mp hc
    by_cases q : J = K
    · subst q
      exact ⟨uE U, by rw [x.1]; omega, x.2.2.2.1, fun i hi => x.2.2.2.2.2.1 i hi⟩
    · exact thU J (d.1 J (by omega) hc0)
  · obtain ⟨e, he, q1, q2⟩ := ht
    rw [x.1] at he
    by_cases q : e < uE U
    · rw [(x.2.2.1 e q).1] at q1
      have hh := h.2.2.1 e q
      rw [q1] at hh
      have hA : ∀ i, i < tnS P tk (kTr J) → kAt J i < uC U := fun i hi => by
        have := q2 i hi
        rw [(x.2.2.1 e q).2.2] at this
        rw [← this]
        exact hh i hi
      have hc0 := (uCd_xt x h pl hA).mp hc
      have := d.2 J hc0 ⟨e, q, q1, fun i hi => by rw [← q2 i hi, (x.2.2.1 e q).2.2]⟩
      omega
    · obtain rfl : e = uE U := by omega
      rw [x.2.2.2.1] at q1
      have hA : ∀ i, i < tnS P tk (kTr K) → kAt J i = kAt K i := fun i hi => by
        rw [← x.2.2.2.2.2.1 i hi]
        exact (q2 i (by rw [← q1]; exact hi)).symm
      have hA2 : ∀ i, i < tnS P tk (kTr J) → kAt J i < uC U := fun i hi => by
        rw [← q1] at hi
        rw [hA i hi]
        exact hK.2.2.1.1.2.1 i hi
      have hc0 := (uCd_xt x h pl hA2).mp hc
      have e3 : ∀ i, kAt J i = kAt K i := fun i => by
        by_cases w : i < tnS P tk (kTr K)
        · exact hA i w
        · rw [hK.2.1 i (by omega), hc0.2.1 i (by rw [← q1]; omega)]
      have e4 : J = K := by
        refine ky_eq ?_ q1.symm (fun i _ => e3 i)
        rw [hc0.2.2.2, hK.2.2.2, q1, funext e3]
      omega
end UNF2
