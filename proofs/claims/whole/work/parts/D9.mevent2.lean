/-! The model's unfolding: an event comes (second half). -/
section MUN9
variable {P T d o K N : Nat} {tk pt : Nat → Nat → Nat} {fi mk : Nat → Nat} {U W V : uS} {m m1 : mMem} {Q : Option Value → mMem → Prop}
theorem ev_xt (hC : uC U ≤ 80) : uXt (tnS P tk) U (uEv P tk U K) (kTr K) (kAt K) := (uEv_xt (V := uEv P tk U K) (uMo.rf (show uC (uEv P tk U K) ≤ 81 from by show uC U ≤ 81; omega)) hC).1
theorem ag_lt {tn : Nat → Nat} {f g : Nat} (h : uAg tn U f g) : f < uE U ∧ g < uE U := h.2.elim fun _ q => ⟨q.1.1, q.2.1⟩
/-- what the new event is against -/
theorem ag_new (hC : uC U ≤ 80) (hE : uE U < 30) : bs (uAg (tnS P tk) (uEv P tk U K) (uE U)) 31 = orS (fun j => bs (uHb (tnS P tk) U (kAt K j)) 31) (tnS P tk (kTr K)) := by
  have x := ev_xt (P := P) (tk := tk) (K := K) hC
  refine tb_ext fun g => ?_
  rw [bs_tb, orS_tb]
  constructor
  · rintro ⟨g1, g2⟩
    have l := (ag_lt g2).2
    rw [x.1] at l
    have ne := g2.1
    obtain ⟨i, hi, w⟩ := (x.agE (show g < uE U by omega)).mp g2.sy
    exact ⟨i, hi, (bs_tb _ _ _).mpr ⟨g1, w⟩⟩
  · rintro ⟨i, hi, w⟩
    obtain ⟨g1, w⟩ := (bs_tb _ _ _).mp w
    exact ⟨g1, ((x.agE w.1).mpr ⟨i, hi, w⟩).sy⟩
theorem ag_old (hC : uC U ≤ 80) (hE : uE U < 30) {f : Nat} (hf : f < uE U) : bs (uAg (tnS P tk) (uEv P tk U K) f) 31 = bs (uAg (tnS P tk) U f) 31 ||| (if (orS (fun j => bs (uHb (tnS P tk) U (kAt K j)) 31) (tnS P tk (kTr K))).testBit f = true then 2 ^ uE U else 0) := by
  have x := ev_xt (P := P) (tk := tk) (K := K) hC
  have key : (orS (fun j => bs (uHb (tnS P tk) U (kAt K j)) 31) (tnS P tk (kTr K))).testBit f = true ↔ uAg (tnS P tk) (uEv P tk U K) f (uE U) := by
    rw [orS_tb, x.agE hf]
    constructor
    · rintro ⟨i, hi, w⟩
      exact ⟨i, hi, ((bs_tb _ _ _).mp w).2⟩
    · rintro ⟨i, hi, w⟩
      exact ⟨i, hi, (bs_tb _ _ _).mpr ⟨by omega, w⟩⟩
  refine tb_ext fun g => ?_
  rw [bor, bs_tb, bs_tb]
  constructor
  · rintro ⟨g1, g2⟩
    have l := (ag_lt g2).2
    rw [x.1] at l
    by_cases w : g = uE U
    · subst w
      right
      rw [if_pos (key.mpr g2), Nat.testBit_two_pow, decide_eq_true_eq]
    · exact Or.inl ⟨g1, (x.ag hf (by omega)).mp g2⟩
  · rintro (⟨g1, g2⟩ | h)
    · exact ⟨g1, (x.ag hf (ag_lt g2).2).mpr g2⟩
    · by_cases w : (orS (fun j => bs (uHb (tnS P tk) U (kAt K j)) 31) (tnS P tk (kTr K))).testBit f = true
      · rw [if_pos w, Nat.testBit_two_pow, decide_eq_true_eq] at h
        subst h
        exact ⟨by omega, key.mp w⟩
      · rw [if_neg w, Nat.zero_testBit] at h
        cases h
theorem meR_mo (h : meR P tk pt mk m o W) (M : uMo P N W V) : meR P tk pt mk m o V := by
  obtain ⟨a1, a2, a3, a4, _⟩ := M
  obtain ⟨b1, b2⟩ := h
  have eH : uHb (tnS P tk) V = uHb (tnS P tk) W := by
    funext c f
    unfold uHb
    rw [a1, a2, a4]
  refine ⟨by rw [a1]; exact b1, fun e he => ?_⟩
  rw [a1] at he
  obtain ⟨c1, c2, c3, c4, c5, c6, c7⟩ := b2 e he
  refine ⟨by rw [a2]; exact c1, by rw [a3]; exact c2, by rw [c3]; exact bz_cg (uCu_eq a2.symm a3.symm e), by rw [a2]; exact c4, by rw [a2, a4]; exact c5, fun p hp => by rw [c6 p hp]; exact uLf_eq a2.symm a3.symm e p, ?_⟩
  rw [c7]
  congr 1
  refine bs_cg fun g _ => ?_
  unfold uAg
  rw [eH]
/-- the others are against it -/
theorem ae_c (hO : m.1 o = some (.inr 8) ∧ o ≠ 0) (hG : uGd P T tk U) (hE : uE U < 30) (x3 x4 : Option Value)
    (hQ : ∀ m', mTo (auA o) (auF o) m m' → meG P tk m' o (uEv P tk U K) (uE U + 1) → (∀ k x, k ≠ 64 * o + 34 → m'.2.2.1 k x = m1.2.2.1 k x) → (∀ f, f ≠ 47 → iF m' o f = iF m1 o f) → iF m' o 47 = nI (uE U + 1) → mEs d 235 o g235 (208, [some (.ref o), some (.int (nI (uE U))), some (.int 0), x3, x4], [], m') Q) :
    ∀ r i m2, r + i = uE U → mTo (auA o) (auF o) m m2 → (∀ f, f < uE U → m2.2.2.1 (64 * o + 34) f = nI (bs (uAg (tnS P tk) (if f < i then uEv P tk U K else U) f) 31)) → m2.2.2.1 (64 * o + 34) (uE U) = nI (orS (fun j => bs (uHb (tnS P tk) U (kAt K j)) 31) (tnS P tk (kTr K))) → (∀ k x, k ≠ 64 * o + 34 → m2.2.2.1 k x = m1.2.2.1 k x) → (∀ f, iF m2 o f = iF m1 o f) → iF m2 o 47 = nI (uE U) → mEs d 235 o g235 (155, [some (.ref o), some (.int (nI (uE U))), some (.int (nI i)), x3, x4], [], m2) Q := by
  have h80 := hG.2.2.1
  intro r
  induction r with
  | zero =>
    intro i m2 hi T2 r34 e34 fr2 ff2 e47
    obtain rfl : i = uE U := by omega
    refine bk235_155 T2.wt (T2.ob hO) ⟨fun _ => ?_, fun z => absurd ((nIle (by omega) (by omega)).mpr (Nat.le_refl _)) z⟩
    rintro m3 rfl
    rw [e47, nIinc]
    refine hQ _ (T2.sF hO ⟨rfl, by omega⟩ (by decide)) (fun f hf => ?_) fr2 (fun f hf => by rw [iF_nf hf]; exact ff2 f) iF_s
    rw [rI_F]
    by_cases w : f = uE U
    · rw [w, e34, ag_new h80 hE]
    · have := r34 f (by omega)
      rw [if_pos (by omega)] at this
      exact this
  | succ r ih =>
    intro i m2 hi T2 r34 e34 fr2 ff2 e47
    have iI : mIn (nI i) 31 = true := (nIin_iff (by omega)).mpr (by omega)
    have iE : mIn (nI (uE U)) 31 = true := (nIin_iff (by omega)).mpr (by omega)
    have ri := r34 i (by omega)
    rw [if_neg (Nat.lt_irrefl _)] at ri
    refine bk235_155 T2.wt (T2.ob hO) ?_
    rw [nIle (by omega) (by omega), nI_clamp (n := i) (by omega), nI_clamp (n := uE U) (by omega), e34, sbit (by omega), ri, shl1 (by omega), or_n]
    have nx : ∀ v : Nat, v = bs (uAg (tnS P tk) (uEv P tk U K) i) 31 → mEs d 235 o g235 (155, [some (.ref o), some (.int (nI (uE U))), some (.int (nI (i + 1))), x3, x4], [], mSetI m2 (64 * o + 34) (upd (m2.2.2.1 (64 * o + 34)) i (nI v))) Q := by
      rintro v rfl
      refine ih (i + 1) _ (by omega) (T2.sI (by unfold auA; omega)) (fun f hf => ?_) (by rw [wr_ne (by omega)]; exact e34) (fun k x hk => by rw [wr_ne (Or.inl hk)]; exact fr2 k x hk) ff2 e47
      by_cases w : f = i
      · rw [w, wr_eq, if_pos (by omega)]
      · rw [wr_ne (Or.inr w), r34 f hf]
        by_cases u : f < i
        · rw [if_pos u, if_pos (by omega)]
        · rw [if_neg u, if_neg (by omega)]
    have old := ag_old (P := P) (tk := tk) (K := K) h80 hE (show i < uE U by omega)
    refine ⟨fun z => by omega, fun _ => ⟨iI, iE, fun q => ⟨iI, ?_⟩, fun q => ⟨iI, ?_⟩⟩⟩
    · rintro m3 rfl v rfl
      rw [nIinc]
      rw [if_neg q] at old
      rw [show nI (bs (uAg (tnS P tk) U i) 31) ||| (0 : Int32) = nI (bs (uAg (tnS P tk) U i) 31 ||| 0) from or_n _ 0]
      exact nx _ old.symm
    · rintro m3 rfl v rfl
      rw [nIinc]
      rw [if_pos (Classical.not_not.mp q)] at old
      exact nx _ old.symm
/-- the marking that it leaves -/
theorem ae_d (hd : 1 ≤ d) (hO : m.1 o = some (.inr 8) ∧ o ≠ 0) (hN : mNet m1 o P T tk pt) (hP : P ≤ 10) (hT10 : T ≤ 10) (hW : uE W = N + 1) (hN30 : N < 30) (hby : ∀ f, f < N + 1 → uBy W f < T) (hH : meH P tk m1 o W (N + 1)) (h4 : ∀ p, p < 10 → m1.2.2.1 (64 * o + 4) p = nI (mk p)) (h47 : iF m1 o 47 = nI (N + 1))
    (hQ : ∀ m' (x2 : Int32) (x3 x4 : Option Value), mTo (auA o) (auF o) m m' → (∀ p, p < P → m'.2.2.1 (64 * o + 33) (10 * N + p) = uLf tk pt mk W N p) → (∀ k x, k ≠ 64 * o + 33 ∨ x < 10 * N → m'.2.2.1 k x = m1.2.2.1 k x) → (∀ f, iF m' o f = iF m1 o f) → mEv d 236 [.ref o, .int (nI N)] m' (fun r m2 => mEs d 235 o g235 (316, [some (.ref o), some (.int (nI N)), some (.int x2), x3, x4], r.toList ++ [.int (nI N), .ref (64 * o + 32)], m2) Q)) :
    ∀ r p m2 (x3 x4 : Option Value), r + p = P → mTo (auA o) (auF o) m m2 → (∀ q, q < p → m2.2.2.1 (64 * o + 33) (10 * N + q) = uLf tk pt mk W N q) → (∀ k x, k ≠ 64 * o + 33 ∨ x < 10 * N → m2.2.2.1 k x = m1.2.2.1 k x) → (∀ f, iF m2 o f = iF m1 o f) → mEs d 235 o g235 (208, [some (.ref o), some (.int (nI N)), some (.int (nI p)), x3, x4], [], m2) Q := by
  intro r
  induction r with
  | zero =>
    intro p m2 x3 x4 hp T2 r33 fr2 ff2
    obtain rfl : p = P := by omega
    refine bk235_208 T2.wt (T2.ob hO) ?_
    rw [ff2 6, hN.1]
    exact ⟨fun _ => hQ m2 _ x3 x4 T2 r33 fr2 ff2, fun z => absurd ((nIle (by omega) (by omega)).mpr (Nat.le_refl _)) z⟩
  | succ r ih =>
    intro p m2 x3 x4 hp T2 r33 fr2 ff2
    have N2 : mNet m2 o P T tk pt := by
      obtain ⟨a1, a2, a3, a4⟩ := hN
      exact ⟨by rw [ff2]; exact a1, by rw [ff2]; exact a2, fun t ht q hq => by rw [fr2 _ _ (Or.inl (by omega))]; exact a3 t ht q hq, fun t ht q hq => by rw [fr2 _ _ (Or.inl (by omega))]; exact a4 t ht q hq⟩
    have iN : mIn (nI N) 31 = true := (nIin_iff (by omega)).mpr (by omega)
    refine bk235_208 T2.wt (T2.ob hO) ?_
    rw [ff2 6, hN.1, nIle (by omega) (by omega), nI_clamp (n := p) (by omega), fr2 _ _ (Or.inl (by omega)), h4 p (by omega)]
    refine ⟨fun z => by omega, fun _ => ⟨(nIin_iff (by omega)).mpr (by omega), ?_⟩⟩
    rintro v rfl
    have inn : ∀ s f, s + f = N + 1 → mEs d 235 o g235 (226, [some (.ref o), some (.int (nI N)), some (.int (nI p)), some (.int (lfN tk pt mk W N p f)), some (.int (nI f))], [], m2) Q := by
      intro s
      induction s with
      | zero =>
        intro f hf
        obtain rfl : f = N + 1 := by omega
        refine bk235_226 T2.wt (T2.ob hO) ?_
        rw [ff2 47, h47, n10x, nI_add, nI_clamp (n := 10 * N + p) (by omega)]
        refine ⟨fun _ => ⟨(nIin_iff (by omega)).mpr (by omega), ?_⟩, fun z => absurd ((nIle (by omega) (by omega)).mpr (Nat.le_refl _)) z⟩
        rintro m3 rfl v rfl
        rw [nIinc]
        refine ih (p + 1) _ _ _ (by omega) (T2.sI (by unfold auA; omega)) (fun q hq => ?_) (fun k x hk => by rw [wr_ne (by omega)]; exact fr2 k x hk) ff2
        by_cases w : q = p
        · rw [w, wr_eq]; rfl
        · rw [wr_ne (by omega)]; exact r33 q (by omega)
      | succ s ihs =>
        intro f hf
        obtain ⟨e28, e31, _, _⟩ := hH f (by omega)
        obtain ⟨_, g31, _, _⟩ := hH N (by omega)
        have hb := hby f (by omega)
        have iF' : mIn (nI f) 31 = true := (nIin_iff (by omega)).mpr (by omega)
        refine bk235_226 T2.wt (T2.ob hO) ?_
        rw [ff2 47, h47, nIle (by omega) (by omega), nI_clamp (n := N) (by omega), nI_clamp (n := f) (by omega), fr2 (64 * o + 31) N (Or.inl (by omega)), g31, sbit (by omega), fr2 (64 * o + 28) f (Or.inl (by omega)), e28]
        refine ⟨fun z => by omega, fun _ => ⟨iN, fun q => ?_, fun q => ⟨iF', ?_⟩⟩⟩
        · rintro v rfl w rfl
          rw [nIinc]
          have := ihs (f + 1) (by omega)
          rw [show lfN tk pt mk W N p (f + 1) = lfN tk pt mk W N p f + 0 from by
            show lfN tk pt mk W N p f + (if (uPa W N).testBit f = true then _ else 0) = _
            rw [if_neg q]] at this
          exact this
        · refine ev_ptM (by omega) T2.wt (T2.ob hO) N2 (by omega) (by omega) ?_
          refine bk235_263 T2.wt (T2.ob hO) ?_
          rw [nI_clamp (n := f) (by omega), fr2 (64 * o + 28) f (Or.inl (by omega)), e28]
          refine ⟨iF', ?_⟩
          refine ev_tkM (by omega) T2.wt (T2.ob hO) N2 (by omega) (by omega) ?_
          refine bk235_275 T2.wt (T2.ob hO) ?_
          rintro v rfl w rfl
          rw [nIinc]
          have := ihs (f + 1) (by omega)
          rw [show lfN tk pt mk W N p (f + 1) = lfN tk pt mk W N p f + (nI (pt (uBy W f) p) - nI (tk (uBy W f) p)) from by
            show lfN tk pt mk W N p f + (if (uPa W N).testBit f = true then _ else 0) = _
            rw [if_pos (Classical.not_not.mp q)]] at this
          exact this
    exact inn (N + 1) 0 (by omega)
/-- the conditions that come of it -/
theorem ae_e {t e : Nat} (hd : 1 ≤ d) (hO : m.1 o = some (.inr 8) ∧ o ≠ 0) (hN : mNet m o P T tk pt) (hP : P ≤ 10) (ht : t < 10) (hp9 : ∀ p, pt t p ≤ 9) (h63 : iF m o 63 = nI t) (hW : N ≤ uC W) (hW81 : uC W ≤ 81) (hV : ∀ c f, N ≤ c → ¬ uHb (tnS P tk) W c f)
    (hQ : ∀ m', mTo (adA o) (adF o) m m' → mcC (tnS P tk) m' o (uAp W (pt t) (e + 1) P) → Q none m') :
    ∀ r p m2 (x3 x4 : Option Value), r + p = P → mTo (adA o) (adF o) m m2 → mcC (tnS P tk) m2 o (uAp W (pt t) (e + 1) p) → mEs d 235 o g235 (319, [some (.ref o), some (.int (nI e)), some (.int (nI p)), x3, x4], [], m2) Q := by
  have frm : ∀ {m1}, mTo (adA o) (adF o) m m1 → mNet m1 o P T tk pt := fun T1 => hN.to T1 (fun z => by unfold adA at z; omega) (fun z => by unfold adA at z; omega) (fun z => by unfold adF at z; omega) (fun z => by unfold adF at z; omega)
  have f63 : ∀ {m1}, mTo (adA o) (adF o) m m1 → iF m1 o 63 = nI t := fun T1 => by rw [T1.nf (fun z => by unfold adF at z; omega)]; exact h63
  intro r
  induction r with
  | zero =>
    intro p m2 x3 x4 hp T2 C2
    obtain rfl : p = P := by omega
    refine bk235_319 T2.wt (T2.ob hO) ?_
    rw [(frm T2).1]
    exact ⟨fun _ => hQ m2 T2 C2, fun z => absurd ((nIle (by omega) (by omega)).mpr (Nat.le_refl _)) z⟩
  | succ r ih =>
    intro p m2 x3 x4 hp T2 C2
    refine bk235_319 T2.wt (T2.ob hO) ?_
    rw [(frm T2).1, nIle (by omega) (by omega)]
    refine ⟨fun z => by omega, fun _ => ?_⟩
    have M := uAp_mo (U := W) (g := pt t) (o := e + 1) (P := P) hW81 p (by omega)
    have p9 := hp9 p
    have inn : ∀ s k m3, s + k = pt t p → mTo (adA o) (adF o) m m3 → mcC (tnS P tk) m3 o (uAn (uAp W (pt t) (e + 1) p) p (e + 1) k) → mEs d 235 o g235 (329, [some (.ref o), some (.int (nI e)), some (.int (nI p)), some (.int (nI k)), x4], [], m3) Q := by
      intro s
      induction s with
      | zero =>
        intro k m3 hk T3 C3
        obtain rfl : k = pt t p := by omega
        refine bk235_329 T3.wt (T3.ob hO) ?_
        rw [f63 T3]
        refine ev_ptM (by omega) T3.wt (T3.ob hO) (frm T3) ht (by omega) ?_
        refine bk235_339 T3.wt (T3.ob hO) ⟨fun _ => ?_, fun z => absurd ((nIle (by omega) (by omega)).mpr (Nat.le_refl _)) z⟩
        rintro v rfl
        rw [nIinc]
        exact ih (p + 1) m3 _ _ (by omega) T3 C3
      | succ s ihs =>
        intro k m3 hk T3 C3
        have M2 := uAn_mo (o := e + 1) M.2.2.2.2.2.1 (show p < P by omega) k
        refine bk235_329 T3.wt (T3.ob hO) ?_
        rw [f63 T3]
        refine ev_ptM (by omega) T3.wt (T3.ob hO) (frm T3) ht (by omega) ?_
        refine bk235_339 T3.wt (T3.ob hO) ?_
        rw [nIle (by omega) (by omega)]
        refine ⟨fun z => by omega, fun _ => ?_⟩
        rw [show nI e = ogV (e + 1) from ogV_s.symm]
        refine ev_mAddCond (V := uAn (uAp W (pt t) (e + 1) p) p (e + 1) k) (N := N) (by omega) T3.wt (T3.ob hO) C3 (by have := M.2.2.2.2.1; have := M2.2.2.2.2.1; omega) (fun c f hc => by rw [hb_an, hb_ap]; exact hV c f hc) ?_
        intro m4 t4 C4
        refine bk235_348 (T3.tr t4).wt ((T3.tr t4).ob hO) ?_
        rintro v rfl
        rw [nIinc, ogV_s]
        exact ihs (k + 1) m4 (by omega) (T3.tr t4) C4
    exact inn (pt t p) 0 m2 (by omega) T2 C2
end MUN9
