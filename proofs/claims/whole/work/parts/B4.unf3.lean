/-! The unfolding, in plain terms: conditions come, events come, the end. -/
def uAc (U : uS) (p o : Nat) : uS := if uC U < 80 then (uE U, uC U + 1, uBy U, uPa U, uHs U, updN (uPl U) (uC U) p, updN (uOr U) (uC U) o) else (uE U, 81, uBy U, uPa U, uHs U, uPl U, uOr U)
def uAn (U : uS) (p o : Nat) : Nat → uS
  | 0 => U
  | k + 1 => uAc (uAn U p o k) p o
def uAp (U : uS) (g : Nat → Nat) (o : Nat) : Nat → uS
  | 0 => U
  | p + 1 => uAn (uAp U g o p) p o (g p)
def u00 : uS := (0, 0, fun _ => 0, fun _ => 0, fun _ _ => 0, fun _ => 0, fun _ => 0)
def uIn (P : Nat) (mk : Nat → Nat) : uS := uAp u00 mk 0 P
def uEv (P : Nat) (tk : Nat → Nat → Nat) (U : uS) (K : Nat) : uS := (uE U + 1, uC U, updN (uBy U) (uE U) (kTr K), updN (uPa U) (uE U) (2 ^ uE U ||| uUn U (kAt K) (tnS P tk (kTr K))), fun e => if e = uE U then kAt K else uHs U e, uPl U, uOr U)
def uAd (P : Nat) (tk pt : Nat → Nat → Nat) (U : uS) (K : Nat) : uS := uAp (uEv P tk U K) (pt (kTr K)) (uE U + 1) P
/-- V is U with conditions of o more, at places below P -/
def uMo (P o : Nat) (U V : uS) : Prop := uE V = uE U ∧ uBy V = uBy U ∧ uPa V = uPa U ∧ uHs V = uHs U ∧ uC U ≤ uC V ∧ uC V ≤ 81 ∧ (uC V ≤ 80 → (∀ c, c < uC U → uPl V c = uPl U c ∧ uOr V c = uOr U c) ∧ (∀ c, uC U ≤ c → c < uC V → uPl V c < P ∧ uOr V c = o))
section UNF3
variable {P T o p : Nat} {tk pt : Nat → Nat → Nat} {mk g : Nat → Nat} {U V W : uS} {K k : Nat}
theorem uMo.rf (h : uC U ≤ 81) : uMo P o U U := ⟨rfl, rfl, rfl, rfl, Nat.le_refl _, h, fun _ => ⟨fun _ _ => ⟨rfl, rfl⟩, fun c h1 h2 => by omega⟩⟩
theorem uMo.tr (h1 : uMo P o U V) (h2 : uMo P o V W) : uMo P o U W := by
  obtain ⟨a1, a2, a3, a4, a5, a6, a7⟩ := h1
  obtain ⟨b1, b2, b3, b4, b5, b6, b7⟩ := h2
  refine ⟨b1.trans a1, b2.trans a2, b3.trans a3, b4.trans a4, by omega, b6, fun q => ?_⟩
  obtain ⟨c1, c2⟩ := b7 q
  obtain ⟨d1, d2⟩ := a7 (by omega)
  refine ⟨fun c hc => ?_, fun c h3 h4 => ?_⟩
  · rw [(c1 c (by omega)).1, (c1 c (by omega)).2]; exact d1 c hc
  · by_cases z : c < uC V
    · rw [(c1 c z).1, (c1 c z).2]; exact d2 c h3 z
    · exact c2 c (by omega) h4
theorem uAc_mo (h : uC U ≤ 81) (hp : p < P) : uMo P o U (uAc U p o) := by
  unfold uAc
  split
  · rename_i q
    refine ⟨rfl, rfl, rfl, rfl, Nat.le_succ _, by show uC U + 1 ≤ 81; omega, fun _ => ⟨fun c hc => ⟨?_, ?_⟩, fun c h1 h2 => ?_⟩⟩
    · show updN (uPl U) (uC U) p c = _; unfold updN; rw [if_neg (by omega)]
    · show updN (uOr U) (uC U) o c = _; unfold updN; rw [if_neg (by omega)]
    · have h2' : c < uC U + 1 := h2
      obtain rfl : c = uC U := by omega
      refine ⟨?_, ?_⟩
      · show updN (uPl U) (uC U) p (uC U) < P; unfold updN; rw [if_pos rfl]; exact hp
      · show updN (uOr U) (uC U) o (uC U) = _; unfold updN; rw [if_pos rfl]
  · exact ⟨rfl, rfl, rfl, rfl, h, Nat.le_refl _, fun q => absurd (show 81 ≤ 80 from q) (by decide)⟩
theorem uAn_mo (h : uC U ≤ 81) (hp : p < P) : ∀ n, uMo P o U (uAn U p o n) := by
  intro n
  induction n with
  | zero => exact uMo.rf h
  | succ n ih => exact ih.tr (uAc_mo ih.2.2.2.2.2.1 hp)
theorem uAp_mo (h : uC U ≤ 81) : ∀ n, n ≤ P → uMo P o U (uAp U g o n) := by
  intro n
  induction n with
  | zero => intro _; exact uMo.rf h
  | succ n ih =>
    intro hn
    exact (ih (by omega)).tr (uAn_mo (ih (by omega)).2.2.2.2.2.1 (by omega) _)
/-- the state is good -/
def uGd (P T : Nat) (tk : Nat → Nat → Nat) (U : uS) : Prop := uOk (tnS P tk) U ∧ uE U ≤ 30 ∧ uC U ≤ 80 ∧ (∀ c, c < uC U → uPl U c < P) ∧ (∀ e, e < uE U → uBy U e < T)
theorem uEv_xt (h : uMo P (uE U + 1) (uEv P tk U K) V) (hV : uC V ≤ 80) : uXt (tnS P tk) U V (kTr K) (kAt K) ∧ (∀ c, c < uC U → uPl V c = uPl U c) ∧ (∀ c, uC U ≤ c → c < uC V → uPl V c < P) := by
  obtain ⟨a1, a2, a3, a4, a5, a6, a7⟩ := h
  obtain ⟨b1, b2⟩ := a7 hV
  refine ⟨⟨a1, a5, fun e he => ⟨?_, ?_, ?_⟩, ?_, ?_, fun i _ => ?_, fun c hc => (b1 c hc).2, fun c h1 h2 => (b2 c h1 h2).2⟩, fun c hc => (b1 c hc).1, fun c h1 h2 => (b2 c h1 h2).1⟩
  · rw [a2]; show updN (uBy U) (uE U) (kTr K) e = _; unfold updN; rw [if_neg (by omega)]
  · rw [a3]; show updN (uPa U) (uE U) _ e = _; unfold updN; rw [if_neg (by omega)]
  · rw [a4]; show (if e = uE U then kAt K else uHs U e) = _; rw [if_neg (by omega)]
  · rw [a2]; show updN (uBy U) (uE U) (kTr K) (uE U) = _; unfold updN; rw [if_pos rfl]
  · rw [a3]; show updN (uPa U) (uE U) _ (uE U) = _; unfold updN; rw [if_pos rfl]; rfl
  · rw [a4]; show (if uE U = uE U then kAt K else uHs U (uE U)) i = _; rw [if_pos rfl]
theorem uAd_mo (h : uC U ≤ 81) : uMo P (uE U + 1) (uEv P tk U K) (uAd P tk pt U K) := uAp_mo (U := uEv P tk U K) h P (Nat.le_refl _)
theorem uAd_e (h : uC U ≤ 81) : uE (uAd P tk pt U K) = uE U + 1 := (uAd_mo h).1
theorem uAd_gd (h : uGd P T tk U) (hK : uCd P T tk pt mk U K) (hE : uE U < 30) : uC (uAd P tk pt U K) = 81 ∨ uGd P T tk (uAd P tk pt U K) := by
  obtain ⟨g1, g2, g3, g4, g5⟩ := h
  have M := uAd_mo (P := P) (tk := tk) (pt := pt) (K := K) (U := U) (by omega)
  by_cases q : uC (uAd P tk pt U K) ≤ 80
  · right
    obtain ⟨x, x2, x3⟩ := uEv_xt M q
    refine ⟨x.ok g1 hK.2.2.1.1, by rw [x.1]; omega, q, fun c hc => ?_, fun e he => ?_⟩
    · by_cases z : c < uC U
      · rw [x2 c z]; exact g4 c z
      · exact x3 c (by omega) hc
    · rw [x.1] at he
      by_cases z : e < uE U
      · rw [(x.2.2.1 e z).1]; exact g5 e z
      · obtain rfl : e = uE U := by omega
        rw [x.2.2.2.1]; exact hK.1
  · have := M.2.2.2.2.2.1
    left; omega
theorem uIn_gd (h : uC (uIn P mk) ≤ 80) : uGd P T tk (uIn P mk) := by
  obtain ⟨a1, a2, a3, a4, a5, a6, a7⟩ := uAp_mo (U := u00) (g := mk) (o := 0) (P := P) (by decide) P (Nat.le_refl _)
  have e0 : uE (uIn P mk) = 0 := a1
  obtain ⟨b1, b2⟩ := a7 h
  have h0 : ∀ c, c < uC (uIn P mk) → uPl (uIn P mk) c < P ∧ uOr (uIn P mk) c = 0 := fun c hc => b2 c (Nat.zero_le _) hc
  refine ⟨⟨fun c hc => by rw [(h0 c hc).2]; exact Nat.zero_le _, fun e he => by omega, fun f hf => by omega, fun c hc f z => ?_, fun e he => by omega⟩, by omega, h, fun c hc => (h0 c hc).1, fun e he => by omega⟩
  have := z.1
  omega
-- the run
noncomputable def uSt (P T : Nat) (tk pt : Nat → Nat → Nat) (mk : Nat → Nat) (U : uS) : uS := cif (uC U = 81 ∨ uE U = 31 ∨ uNx P T tk pt mk U = 1073741824) U (if uE U = 30 then (31, U.2) else uAd P tk pt U (uNx P T tk pt mk U))
noncomputable def uIt (P T : Nat) (tk pt : Nat → Nat → Nat) (mk : Nat → Nat) : Nat → uS
  | 0 => uIn P mk
  | k + 1 => uSt P T tk pt mk (uIt P T tk pt mk k)
noncomputable def uZ (P T : Nat) (tk pt : Nat → Nat → Nat) (mk : Nat → Nat) : uS := uIt P T tk pt mk 31
def uRe (P T : Nat) (tk pt : Nat → Nat → Nat) (mk : Nat → Nat) (U : uS) : Prop := uE U ≤ 31 ∧ uIt P T tk pt mk (uE U) = U
theorem uIt_st (h : uSt P T tk pt mk (uIt P T tk pt mk k) = uIt P T tk pt mk k) : ∀ n, uIt P T tk pt mk (k + n) = uIt P T tk pt mk k := by
  intro n
  induction n with
  | zero => rfl
  | succ n ih =>
    show uSt P T tk pt mk (uIt P T tk pt mk (k + n)) = _
    rw [ih]; exact h
theorem uRe.z (h : uRe P T tk pt mk U) (q : uC U = 81 ∨ uE U = 31 ∨ uNx P T tk pt mk U = 1073741824) : uZ P T tk pt mk = U := by
  have e : uSt P T tk pt mk (uIt P T tk pt mk (uE U)) = uIt P T tk pt mk (uE U) := by
    rw [h.2]; unfold uSt; exact cif_t q
  have := uIt_st e (31 - uE U)
  rw [show uE U + (31 - uE U) = 31 by have := h.1; omega, h.2] at this
  exact this
theorem uRe_0 : uRe P T tk pt mk (uIn P mk) := by
  have e0 : uE (uIn P mk) = 0 := (uAp_mo (U := u00) (g := mk) (o := 0) (P := P) (by decide) P (Nat.le_refl _)).1
  exact ⟨by omega, by rw [e0]; rfl⟩
theorem uRe.st (h : uRe P T tk pt mk U) (hC : uC U ≤ 80) (hE : uE U < 30) (hK : uNx P T tk pt mk U = K) (hK2 : K < 1073741824) : uRe P T tk pt mk (uAd P tk pt U K) := by
  have e1 : uE (uAd P tk pt U K) = uE U + 1 := uAd_e (by omega)
  refine ⟨by omega, ?_⟩
  rw [e1]
  show uSt P T tk pt mk (uIt P T tk pt mk (uE U)) = _
  rw [h.2]
  unfold uSt
  rw [cif_f (by omega), if_neg (by omega), hK]
theorem uRe.gr (h : uRe P T tk pt mk U) (hC : uC U ≤ 80) (hE : uE U = 30) (hK : uNx P T tk pt mk U < 1073741824) : uE (uZ P T tk pt mk) = 31 := by
  have e : uIt P T tk pt mk 31 = (31, U.2) := by
    show uSt P T tk pt mk (uIt P T tk pt mk 30) = _
    rw [← hE, h.2]
    unfold uSt
    rw [cif_f (by omega), if_pos hE]
  unfold uZ
  rw [e]
end UNF3
