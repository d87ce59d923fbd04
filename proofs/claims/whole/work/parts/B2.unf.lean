/-! The unfolding, in plain terms: which conditions can hold at once. -/
/-- events, conditions; of an event: by which transition, its past, what it has; of a condition: its place, of which event it comes (0: of none) -/
abbrev uS : Type := Nat × Nat × (Nat → Nat) × (Nat → Nat) × (Nat → Nat → Nat) × (Nat → Nat) × (Nat → Nat)
abbrev uE (U : uS) : Nat := U.1
abbrev uC (U : uS) : Nat := U.2.1
abbrev uBy (U : uS) : Nat → Nat := U.2.2.1
abbrev uPa (U : uS) : Nat → Nat := U.2.2.2.1
abbrev uHs (U : uS) : Nat → Nat → Nat := U.2.2.2.2.1
abbrev uPl (U : uS) : Nat → Nat := U.2.2.2.2.2.1
abbrev uOr (U : uS) : Nat → Nat := U.2.2.2.2.2.2
def uPo (U : uS) (c : Nat) : Nat := if uOr U c = 0 then 0 else uPa U (uOr U c - 1)
def uHb (tn : Nat → Nat) (U : uS) (c f : Nat) : Prop := f < uE U ∧ ∃ i, i < tn (uBy U f) ∧ uHs U f i = c
def uAg (tn : Nat → Nat) (U : uS) (f g : Nat) : Prop := f ≠ g ∧ ∃ c, uHb tn U c f ∧ uHb tn U c g
def uCf (tn : Nat → Nat) (U : uS) (s : Nat) : Prop := ∀ f g, s.testBit f = true → s.testBit g = true → ¬ uAg tn U f g
def uCo (tn : Nat → Nat) (U : uS) (a b : Nat) : Prop := a ≠ b ∧ (∀ f, uHb tn U a f → (uPo U b).testBit f = false) ∧ (∀ f, uHb tn U b f → (uPo U a).testBit f = false) ∧ uCf tn U (uPo U a ||| uPo U b)
def uOk (tn : Nat → Nat) (U : uS) : Prop := (∀ c, c < uC U → uOr U c ≤ uE U) ∧ (∀ e, e < uE U → uPa U e < 2 ^ uE U ∧ (uPa U e).testBit e = true) ∧ (∀ f, f < uE U → ∀ i, i < tn (uBy U f) → uHs U f i < uC U) ∧ (∀ c, c < uC U → ∀ f, uHb tn U c f → (uPo U c).testBit f = false) ∧ (∀ e, e < uE U → uCf tn U (uPa U e))
/-- U' is U with an event more -/
def uXt (tn : Nat → Nat) (U U' : uS) (t : Nat) (A : Nat → Nat) : Prop := uE U' = uE U + 1 ∧ uC U ≤ uC U' ∧ (∀ e, e < uE U → uBy U' e = uBy U e ∧ uPa U' e = uPa U e ∧ uHs U' e = uHs U e) ∧ uBy U' (uE U) = t ∧ uPa U' (uE U) = 2 ^ uE U ||| orS (fun i => uPo U (A i)) (tn t) ∧ (∀ i, i < tn t → uHs U' (uE U) i = A i) ∧ (∀ c, c < uC U → uOr U' c = uOr U c) ∧ (∀ c, uC U ≤ c → c < uC U' → uOr U' c = uE U + 1)
def uVb (tn : Nat → Nat) (U : uS) (t : Nat) (A : Nat → Nat) : Prop := 0 < tn t ∧ (∀ i, i < tn t → A i < uC U) ∧ (∀ i j, i < j → j < tn t → uCo tn U (A i) (A j))
section UNF
variable {tn : Nat → Nat} {U U' : uS} {t a b c e f : Nat} {A : Nat → Nat}
theorem uCo.sy (h : uCo tn U a b) : uCo tn U b a := ⟨Ne.symm h.1, h.2.2.1, h.2.1, by rw [Nat.or_comm]; exact h.2.2.2⟩
theorem bor {x y i : Nat} : (x ||| y).testBit i = true ↔ x.testBit i = true ∨ y.testBit i = true := by rw [Nat.testBit_or, Bool.or_eq_true]
theorem bno {x i : Nat} : x.testBit i = false ↔ ¬ x.testBit i = true := by cases x.testBit i <;> simp
theorem uOk.bit (h : uOk tn U) (he : e < uE U) (hb : (uPa U e).testBit f = true) : f < uE U := by
  refine Nat.lt_of_not_le fun q => ?_
  have h1 := (h.2.1 e he).1
  rw [Nat.testBit_lt_two_pow (Nat.lt_of_lt_of_le h1 (Nat.pow_le_pow_right (by decide) q))] at hb
  cases hb
theorem uOk.po (h : uOk tn U) (hc : c < uC U) (hb : (uPo U c).testBit f = true) : uOr U c ≠ 0 ∧ uOr U c - 1 < uE U ∧ (uPa U (uOr U c - 1)).testBit f = true ∧ f < uE U := by
  unfold uPo at hb
  have h1 := h.1 c hc
  by_cases q : uOr U c = 0
  · rw [if_pos q, Nat.zero_testBit] at hb; cases hb
  · rw [if_neg q] at hb
    exact ⟨q, by omega, hb, h.bit (by omega) hb⟩
theorem uOk.poCf (h : uOk tn U) (hc : c < uC U) : uCf tn U (uPo U c) := by
  intro f g hf hg
  obtain ⟨q1, q2, q3, q4⟩ := h.po hc hf
  obtain ⟨p1, p2, p3, p4⟩ := h.po hc hg
  exact h.2.2.2.2 _ q2 f g q3 p3
-- with one event more
theorem uXt.hb (x : uXt tn U U' t A) : uHb tn U' c f ↔ uHb tn U c f ∨ (f = uE U ∧ ∃ i, i < tn t ∧ A i = c) := by
  obtain ⟨x1, x2, x3, x4, x5, x6, x7, x8⟩ := x
  unfold uHb
  rw [x1]
  by_cases q : f < uE U
  · rw [(x3 f q).1, (x3 f q).2.2]
    exact ⟨fun h => Or.inl ⟨q, h.2⟩, fun h => h.elim (fun h => ⟨by omega, h.2⟩) (fun h => by omega)⟩
  · by_cases q2 : f = uE U
    · subst q2
      rw [x4]
      refine ⟨fun h => Or.inr ⟨rfl, ?_⟩, fun h => ⟨by omega, ?_⟩⟩
      · obtain ⟨i, h1, h2⟩ := h.2
        exact ⟨i, h1, by rw [← x6 i h1]; exact h2⟩
      · rcases h with h | ⟨_, i, h1, h2⟩
        · exact absurd h.1 q
        · exact ⟨i, h1, by rw [x6 i h1]; exact h2⟩
    · exact ⟨fun h => by omega, fun h => h.elim (fun h => absurd h.1 q) (fun h => absurd h.1 q2)⟩
theorem uXt.po (x : uXt tn U U' t A) (h : uOk tn U) (hc : c < uC U) : uPo U' c = uPo U c := by
  obtain ⟨x1, x2, x3, x4, x5, x6, x7, x8⟩ := x
  have h1 := h.1 c hc
  unfold uPo
  rw [x7 c hc]
  by_cases q : uOr U c = 0
  · rw [if_pos q, if_pos q]
  · rw [if_neg q, if_neg q, (x3 (uOr U c - 1) (by omega)).2.1]
theorem uXt.poN (x : uXt tn U U' t A) (h1 : uC U ≤ c) (h2 : c < uC U') : uPo U' c = 2 ^ uE U ||| orS (fun i => uPo U (A i)) (tn t) := by
  obtain ⟨x1, x2, x3, x4, x5, x6, x7, x8⟩ := x
  unfold uPo
  rw [x8 c h1 h2, if_neg (by omega)]
  exact x5
theorem uXt.tb (x : uXt tn U U' t A) (h1 : uC U ≤ c) (h2 : c < uC U') : (uPo U' c).testBit f = true ↔ f = uE U ∨ ∃ i, i < tn t ∧ (uPo U (A i)).testBit f = true := by
  rw [x.poN h1 h2, bor, orS_tb, Nat.testBit_two_pow, decide_eq_true_eq]
  exact or_congr eq_comm Iff.rfl
/-- among what was there, conflicts stay as they are -/
theorem uXt.ag (x : uXt tn U U' t A) {g : Nat} (hf : f < uE U) (hg : g < uE U) : uAg tn U' f g ↔ uAg tn U f g := by
  unfold uAg
  refine and_congr Iff.rfl ⟨fun ⟨c, h1, h2⟩ => ⟨c, ?_, ?_⟩, fun ⟨c, h1, h2⟩ => ⟨c, x.hb.mpr (Or.inl h1), x.hb.mpr (Or.inl h2)⟩⟩
  · exact (x.hb.mp h1).elim id (fun h => by omega)
  · exact (x.hb.mp h2).elim id (fun h => by omega)
theorem uXt.agE (x : uXt tn U U' t A) (hf : f < uE U) : uAg tn U' f (uE U) ↔ ∃ i, i < tn t ∧ uHb tn U (A i) f := by
  unfold uAg
  constructor
  · rintro ⟨_, c, h1, h2⟩
    have h1' := (x.hb.mp h1).elim id (fun h => by omega)
    rcases x.hb.mp h2 with h | ⟨_, i, hi, e⟩
    · exact absurd h.1 (Nat.lt_irrefl _)
    · exact ⟨i, hi, by rw [e]; exact h1'⟩
  · rintro ⟨i, hi, h⟩
    exact ⟨by omega, A i, x.hb.mpr (Or.inl h), x.hb.mpr (Or.inr ⟨rfl, i, hi, rfl⟩)⟩
theorem uAg.sy {g : Nat} (h : uAg tn U f g) : uAg tn U g f := ⟨Ne.symm h.1, h.2.elim fun c q => ⟨c, q.2, q.1⟩⟩
theorem uXt.old (x : uXt tn U U' t A) (h : uOk tn U) (ha : a < uC U) (hb : b < uC U) : uCo tn U' a b ↔ uCo tn U a b := by
  have pa := x.po h ha
  have pb := x.po h hb
  have la : ∀ f, (uPo U a).testBit f = true → f < uE U := fun f q => (h.po ha q).2.2.2
  have lb : ∀ f, (uPo U b).testBit f = true → f < uE U := fun f q => (h.po hb q).2.2.2
  unfold uCo uCf
  rw [pa, pb]
  refine and_congr Iff.rfl (and_congr ⟨fun q f z => q f (x.hb.mpr (Or.inl z)), fun q f z => ?_⟩ (and_congr ⟨fun q f z => q f (x.hb.mpr (Or.inl z)), fun q f z => ?_⟩ ⟨fun q f g z1 z2 z3 => ?_, fun q f g z1 z2 z3 => ?_⟩))
  · rcases x.hb.mp z with z | ⟨z, _⟩
    · exact q f z
    · refine bno.mpr fun w => ?_
      have := lb f w; omega
  · rcases x.hb.mp z with z | ⟨z, _⟩
    · exact q f z
    · refine bno.mpr fun w => ?_
      have := la f w; omega
  · have hf : f < uE U := (bor.mp z1).elim (la f) (lb f)
    have hg : g < uE U := (bor.mp z2).elim (la g) (lb g)
    exact q f g z1 z2 ((x.ag hf hg).mpr z3)
  · have hf : f < uE U := (bor.mp z1).elim (la f) (lb f)
    have hg : g < uE U := (bor.mp z2).elim (la g) (lb g)
    exact q f g z1 z2 ((x.ag hf hg).mp z3)
/-- what an event has: each with each, and with its own past -/
theorem uVb.no (v : uVb tn U t A) (h : uOk tn U) {i j : Nat} (hi : i < tn t) (hj : j < tn t) (z : uHb tn U (A i) f) : ¬ (uPo U (A j)).testBit f = true := by
  rcases Nat.lt_trichotomy i j with q | q | q
  · exact bno.mp ((v.2.2 i j q hj).2.1 f z)
  · subst q; exact bno.mp (h.2.2.2.1 _ (v.2.1 i hi) f z)
  · exact bno.mp ((v.2.2 j i q hi).2.2.1 f z)
theorem uVb.cf (v : uVb tn U t A) (h : uOk tn U) {i j g : Nat} (hi : i < tn t) (hj : j < tn t) (z1 : (uPo U (A i)).testBit f = true) (z2 : (uPo U (A j)).testBit g = true) : ¬ uAg tn U f g := by
  rcases Nat.lt_trichotomy i j with q | q | q
  · exact (v.2.2 i j q hj).2.2.2 f g (bor.mpr (Or.inl z1)) (bor.mpr (Or.inr z2))
  · subst q; exact h.poCf (v.2.1 i hi) f g z1 z2
  · exact (v.2.2 j i q hi).2.2.2 f g (bor.mpr (Or.inr z1)) (bor.mpr (Or.inl z2))
/-- the past of the event more has no conflict -/
theorem uXt.cfN (x : uXt tn U U' t A) (h : uOk tn U) (v : uVb tn U t A) : uCf tn U' (uPa U' (uE U)) := by
  have tb : ∀ f, (uPa U' (uE U)).testBit f = true → f = uE U ∨ ∃ i, i < tn t ∧ (uPo U (A i)).testBit f = true := by
    intro f q
    rw [x.2.2.2.2.1, bor, orS_tb, Nat.testBit_two_pow, decide_eq_true_eq] at q
    exact q.imp Eq.symm id
  have lt : ∀ i f, i < tn t → (uPo U (A i)).testBit f = true → f < uE U := fun i f hi q => (h.po (v.2.1 i hi) q).2.2.2
  intro f g z1 z2 z3
  rcases tb f z1 with e1 | ⟨i, hi, w1⟩
  · rcases tb g z2 with e2 | ⟨j, hj, w2⟩
    · exact z3.1 (e1.trans e2.symm)
    · rw [e1] at z3
      obtain ⟨k, hk, w⟩ := (x.agE (lt j g hj w2)).mp z3.sy
      exact v.no h hk hj w w2
  · rcases tb g z2 with e2 | ⟨j, hj, w2⟩
    · rw [e2] at z3
      obtain ⟨k, hk, w⟩ := (x.agE (lt i f hi w1)).mp z3
      exact v.no h hk hi w w1
    · exact v.cf h hi hj w1 w2 ((x.ag (lt i f hi w1) (lt j g hj w2)).mp z3)
theorem uXt.both (x : uXt tn U U' t A) (h : uOk tn U) (v : uVb tn U t A) (hc : uC U ≤ c) (hc2 : c < uC U') (hb : uC U ≤ b) (hb2 : b < uC U') (e : c ≠ b) : uCo tn U' c b := by
  have nh : ∀ {k f}, uC U ≤ k → ¬ uHb tn U' k f := by
    intro k f hk z
    rcases x.hb.mp z with z | ⟨_, i, hi, z⟩
    · obtain ⟨z1, i, z2, z3⟩ := z
      have := h.2.2.1 f z1 i z2
      omega
    · have := v.2.1 i hi; omega
  refine ⟨e, fun f z => absurd z (nh hc), fun f z => absurd z (nh hb), ?_⟩
  rw [x.poN hc hc2, x.poN hb hb2, Nat.or_self, ← x.2.2.2.2.1]
  exact x.cfN h v
theorem uXt.new (x : uXt tn U U' t A) (h : uOk tn U) (v : uVb tn U t A) (hc : uC U ≤ c) (hc2 : c < uC U') (hb : b < uC U) : uCo tn U' c b ↔ ∀ i, i < tn t → uCo tn U (A i) b := by
  have pb := x.po h hb
  have lb : ∀ f, (uPo U b).testBit f = true → f < uE U := fun f q => (h.po hb q).2.2.2
  have lt : ∀ i f, i < tn t → (uPo U (A i)).testBit f = true → f < uE U := fun i f hi q => (h.po (v.2.1 i hi) q).2.2.2
  have nh : ∀ {f}, ¬ uHb tn U' c f := by
    intro f z
    rcases x.hb.mp z with z | ⟨_, i, hi, z⟩
    · obtain ⟨z1, i, z2, z3⟩ := z
      have := h.2.2.1 f z1 i z2
      omega
    · have := v.2.1 i hi; omega
  constructor
  · rintro ⟨_, _, q2, q3⟩ i hi
    rw [pb] at q3
    have cE : (uPo U' c ||| uPo U b).testBit (uE U) = true := bor.mpr (Or.inl ((x.tb hc hc2).mpr (Or.inl rfl)))
    refine ⟨fun e => ?_, fun f z => bno.mpr fun w => ?_, fun f z => bno.mpr fun w => ?_, fun f g z1 z2 z3 => ?_⟩
    · have := q2 (uE U) (x.hb.mpr (Or.inr ⟨rfl, i, hi, e⟩))
      exact bno.mp this ((x.tb hc hc2).mpr (Or.inl rfl))
    · exact q3 f (uE U) (bor.mpr (Or.inr w)) cE ((x.agE (lb f w)).mpr ⟨i, hi, z⟩)
    · exact bno.mp (q2 f (x.hb.mpr (Or.inl z))) ((x.tb hc hc2).mpr (Or.inr ⟨i, hi, w⟩))
    · have up : ∀ {k}, (uPo U (A i) ||| uPo U b).testBit k = true → (uPo U' c ||| uPo U b).testBit k = true ∧ k < uE U := by
        intro k w
        rcases bor.mp w with w | w
        · exact ⟨bor.mpr (Or.inl ((x.tb hc hc2).mpr (Or.inr ⟨i, hi, w⟩))), lt i k hi w⟩
        · exact ⟨bor.mpr (Or.inr w), lb k w⟩
      exact q3 f g (up z1).1 (up z2).1 ((x.ag (up z1).2 (up z2).2).mpr z3)
  · intro q
    have q0 := q 0 v.1
    refine ⟨fun e => by omega, fun f z => absurd z nh, fun f z => bno.mpr fun w => ?_, ?_⟩
    · rcases (x.tb hc hc2).mp w with w | ⟨i, hi, w⟩
      · subst w
        rcases x.hb.mp z with z | ⟨_, i, hi, e⟩
        · exact absurd z.1 (Nat.lt_irrefl _)
        · exact (q i hi).1 e
      · rcases x.hb.mp z with z | ⟨z, _⟩
        · exact bno.mp ((q i hi).2.2.1 f z) w
        · have := lt i f hi w; omega
    · rw [pb]
      have at1 : ∀ {f g}, (uPo U' c).testBit f = true → (uPo U b).testBit g = true → ¬ uAg tn U' f g := by
        intro f g w1 w2 z
        rcases (x.tb hc hc2).mp w1 with w | ⟨i, hi, w⟩
        · subst w
          obtain ⟨i, hi, y⟩ := (x.agE (lb g w2)).mp z.sy
          exact bno.mp ((q i hi).2.1 g y) w2
        · exact (q i hi).2.2.2 f g (bor.mpr (Or.inl w)) (bor.mpr (Or.inr w2)) ((x.ag (lt i f hi w) (lb g w2)).mp z)
      intro f g z1 z2 z3
      rcases bor.mp z1 with w1 | w1
      · rcases bor.mp z2 with w2 | w2
        · rw [x.poN hc hc2, ← x.2.2.2.2.1] at w1 w2
          exact x.cfN h v f g w1 w2 z3
        · exact at1 w1 w2 z3
      · rcases bor.mp z2 with w2 | w2
        · exact at1 w2 w1 z3.sy
        · exact h.poCf hb f g w1 w2 ((x.ag (lb f w1) (lb g w2)).mp z3)
theorem uXt.ok (x : uXt tn U U' t A) (h : uOk tn U) (v : uVb tn U t A) : uOk tn U' := by
  have x1 := x.1
  have x2 := x.2.1
  have lt : ∀ i f, i < tn t → (uPo U (A i)).testBit f = true → f < uE U := fun i f hi q => (h.po (v.2.1 i hi) q).2.2.2
  refine ⟨fun c hc => ?_, fun e he => ?_, fun f hf i hi => ?_, fun c hc f z => ?_, fun e he => ?_⟩
  · by_cases q : c < uC U
    · rw [x.2.2.2.2.2.2.1 c q]; have := h.1 c q; omega
    · rw [x.2.2.2.2.2.2.2 c (by omega) hc]; omega
  · by_cases q : e < uE U
    · rw [(x.2.2.1 e q).2.1, x1]
      exact ⟨Nat.lt_of_lt_of_le (h.2.1 e q).1 (Nat.pow_le_pow_right (by decide) (by omega)), (h.2.1 e q).2⟩
    · obtain rfl : e = uE U := by omega
      rw [x.2.2.2.2.1, x1]
      refine ⟨Nat.or_lt_two_pow (Nat.pow_lt_pow_right (by decide) (by omega)) ?_, bor.mpr (Or.inl (by rw [Nat.testBit_two_pow, decide_eq_true_eq]))⟩
      have : ∀ n, n ≤ tn t → orS (fun i => uPo U (A i)) n < 2 ^ (uE U + 1) := by
        intro n
        induction n with
        | zero => intro _; exact Nat.pow_pos (by decide)
        | succ n ih =>
          intro hn
          refine Nat.or_lt_two_pow (ih (by omega)) ?_
          have hA := v.2.1 n (by omega)
          have h1 := h.1 (A n) hA
          show uPo U (A n) < _
          unfold uPo
          by_cases q : uOr U (A n) = 0
          · rw [if_pos q]; exact Nat.pow_pos (by decide)
          · rw [if_neg q]
            exact Nat.lt_of_lt_of_le (h.2.1 _ (by omega)).1 (Nat.pow_le_pow_right (by decide) (by omega))
      exact this _ (Nat.le_refl _)
  · by_cases q : f < uE U
    · rw [(x.2.2.1 f q).1] at hi
      rw [(x.2.2.1 f q).2.2]
      have := h.2.2.1 f q i hi; omega
    · obtain rfl : f = uE U := by omega
      rw [x.2.2.2.1] at hi
      rw [x.2.2.2.2.2.1 i hi]
      have := v.2.1 i hi; omega
  · by_cases q : c < uC U
    · rw [x.po h q]
      rcases x.hb.mp z with z | ⟨z, _⟩
      · exact h.2.2.2.1 c q f z
      · refine bno.mpr fun w => ?_
        have := (h.po q w).2.2.2; omega
    · exfalso
      rcases x.hb.mp z with z | ⟨_, i, hi, z⟩
      · obtain ⟨z1, i, z2, z3⟩ := z
        have := h.2.2.1 f z1 i z2
        omega
      · have := v.2.1 i hi; omega
  · by_cases q : e < uE U
    · intro f g z1 z2 z3
      rw [(x.2.2.1 e q).2.1] at z1 z2
      exact h.2.2.2.2 e q f g z1 z2 ((x.ag (h.bit q z1) (h.bit q z2)).mp z3)
    · obtain rfl : e = uE U := by omega
      exact x.cfN h v
end UNF
