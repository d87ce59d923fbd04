/-! The class Reach: looking ahead. -/
/-- what a bit stands for at a marking: a transition that can, the first one, a dead one -/
def rTg (P T : Nat) (tk pt : Nat → Nat → Nat) (S : rcS) (b k : Nat) : Prop := (b < T ∧ rdyS P tk pt (S.2.1 k) b) ∨ (b = 10 ∧ k = 0) ∨ (b = 11 ∧ ∀ t, t < T → ¬ rdyS P tk pt (S.2.1 k) t)
noncomputable def aoN (P : Nat) (tk pt : Nat → Nat → Nat) (S : rcS) (A : Nat → Nat) (i : Nat) : Nat → Nat
  | 0 => 0
  | t + 1 => cif (rdyS P tk pt (S.2.1 i) t) (aoN P tk pt S A i t ||| A (S.2.2.2.2.2 i t)) (aoN P tk pt S A i t)
theorem aoN_tb {P : Nat} {tk pt : Nat → Nat → Nat} {S : rcS} {A : Nat → Nat} {i b : Nat} : ∀ t, (aoN P tk pt S A i t).testBit b = true ↔ ∃ u, u < t ∧ rdyS P tk pt (S.2.1 i) u ∧ (A (S.2.2.2.2.2 i u)).testBit b = true := by
  intro t
  induction t with
  | zero =>
    show (0 : Nat).testBit b = true ↔ _
    rw [Nat.zero_testBit]
    exact ⟨fun h => absurd h (by decide), fun ⟨u, h, _⟩ => absurd h (Nat.not_lt_zero _)⟩
  | succ t ih =>
    show (cif _ _ _ : Nat).testBit b = true ↔ _
    by_cases q : rdyS P tk pt (S.2.1 i) t
    · rw [cif_t q, Nat.testBit_or, Bool.or_eq_true, ih]
      constructor
      · rintro (⟨u, h1, h2⟩ | h)
        · exact ⟨u, by omega, h2⟩
        · exact ⟨t, Nat.lt_succ_self _, q, h⟩
      · rintro ⟨u, h1, h2, h3⟩
        by_cases e : u = t
        · subst e; exact Or.inr h3
        · exact Or.inl ⟨u, by omega, h2, h3⟩
    · rw [cif_f q, ih]
      constructor
      · rintro ⟨u, h1, h2⟩; exact ⟨u, by omega, h2⟩
      · rintro ⟨u, h1, h2, h3⟩
        by_cases e : u = t
        · subst e; exact absurd h2 q
        · exact ⟨u, by omega, h2, h3⟩
theorem aoN_lt {P : Nat} {tk pt : Nat → Nat → Nat} {S : rcS} {A : Nat → Nat} {i : Nat} : ∀ t, (∀ u, u < t → rdyS P tk pt (S.2.1 i) u → A (S.2.2.2.2.2 i u) < 2 ^ 12) → aoN P tk pt S A i t < 2 ^ 12 := by
  intro t
  induction t with
  | zero => intro _; exact Nat.two_pow_pos 12
  | succ t ih =>
    intro h
    have ih' := ih (fun u hu => h u (by omega))
    show (cif _ _ _ : Nat) < _
    by_cases q : rdyS P tk pt (S.2.1 i) t
    · rw [cif_t q]; exact Nat.or_lt_two_pow ih' (h t (Nat.lt_succ_self _) q)
    · rw [cif_f q]; exact ih'
section CRC4
variable {d c n P T N r lr : Nat} {tk pt : Nat → Nat → Nat} {fi mk row : Nat → Nat} {S : rcS} {A : Nat → Nat} {m : mMem} {Q : Option Value → mMem → Prop}
theorem ev_aheadOf {i : Nat} (hd : 1 ≤ d) (hT : mWT m) (hO : m.1 c = some (.inr 5) ∧ c ≠ 0) (hk : okNet P T tk pt fi) (hR : rcR m c P T tk pt S) (h300 : S.1 ≤ 300) (hi : i < S.1) (hN : ∀ k u, k < S.1 → u < T → rdyS P tk pt (S.2.1 k) u → S.2.2.2.2.2 k u < S.1) (hX : ∀ k u, k < S.1 → u < T → rdyS P tk pt (S.2.1 k) u → m.2.2.1 (64 * c + 6) (k * 10 + u) = nI (S.2.2.2.2.2 k u)) (hA : ∀ k, k < S.1 → m.2.2.1 (64 * c + 7) k = nI (A k)) (hQ : Q (some (.int (nI (aoN P tk pt S A i T)))) m) : mEv d 67 [.ref c, .int (nI i)] m Q := by
  obtain ⟨r1, r2, r3, r4, r5, r6, r7, r8, r9⟩ := id hR
  have hk2 := hk.2.1
  have hbs := bs_small (rdyS P tk pt (S.2.1 i)) hk2
  refine mEv.at (by omega) G67 (Nat.le_of_ble_eq_true rfl) ?_
  refine bk67_0 hT hO ?_
  refine upto (e := T) (X := fun t => mEs (d - 1) 67 c g67 (4, [some (.ref c), some (.int (nI i)), some (.int (nI (aoN P tk pt S A i t))), some (.int (nI t))], [], m) Q) ?_ ?_ 0 (Nat.zero_le _)
  · refine bk67_4 hT hO ?_
    rw [r2, nIle (by omega) (by omega)]
    exact ⟨fun _ => hQ, fun c => absurd (Nat.le_refl _) c⟩
  · intro t ht ih
    refine bk67_4 hT hO ?_
    rw [r2, nIle (by omega) (by omega), nI_clamp (by omega), r5 i hi, bit_n (by omega) (by omega), bz_1, bs_tb, nIinc, l10, nI_mul, nI_add, nI_clamp (by omega)]
    refine ⟨fun c => by omega, fun _ => ⟨(nIin_iff (by omega)).mpr (by omega), fun cb => ?_, fun cb => ?_⟩⟩
    · rintro v1 rfl
      rw [show aoN P tk pt S A i (t + 1) = aoN P tk pt S A i t from cif_f (fun z => cb ⟨ht, z⟩)] at ih
      exact ih
    · have hr := (Classical.not_not.mp cb).2
      have := hN i t hi ht hr
      rw [hX i t hi ht hr, nI_clamp (by omega), hA _ this, or_n]
      refine ⟨(nIin_iff (by omega)).mpr (by omega), (nIin_iff (by omega)).mpr (by omega), ?_⟩
      rintro v2 rfl v3 rfl
      rw [show aoN P tk pt S A i (t + 1) = aoN P tk pt S A i t ||| A (S.2.2.2.2.2 i t) from cif_t hr] at ih
      exact ih
/-- what is found so far: no more than there is -/
def laI (P T : Nat) (tk pt : Nat → Nat → Nat) (S : rcS) (A : Nat → Nat) : Prop := ∀ k, k < S.1 → A k < 2 ^ 12 ∧ ∀ b, (A k).testBit b = true → rEv P T tk pt S (rTg P T tk pt S b) k
def laJ (P T : Nat) (tk pt : Nat → Nat → Nat) (S : rcS) (A : Nat → Nat) (n k : Nat) : Prop := ∀ b, b < 12 → rTo P T tk pt S (rTg P T tk pt S b) n k → (A k).testBit b = true
def laC (P T : Nat) (tk pt : Nat → Nat → Nat) (S : rcS) (A : Nat → Nat) (k : Nat) : Prop := ∀ t, t < T → rdyS P tk pt (S.2.1 k) t → ∀ b, (A (S.2.2.2.2.2 k t)).testBit b = true → (A k).testBit b = true
noncomputable def laZ (P T : Nat) (tk pt : Nat → Nat → Nat) (S : rcS) (k : Nat) : Nat := bs (fun b => rEv P T tk pt S (rTg P T tk pt S b) k) 12
theorem la_bits {x : Nat} {C : Nat → Prop} (h : x < 2 ^ 12) (h1 : ∀ b, x.testBit b = true → C b) (h2 : ∀ b, b < 12 → C b → x.testBit b = true) : x = bs C 12 := by
  refine tb_ext fun b => ?_
  rw [bs_tb]
  constructor
  · intro q
    refine ⟨Nat.lt_of_not_le fun z => ?_, h1 b q⟩
    have : x < 2 ^ b := Nat.lt_of_lt_of_le h (Nat.pow_le_pow_right (by decide) z)
    rw [Nat.testBit_lt_two_pow this] at q
    exact absurd q (by decide)
  · rintro ⟨a, b⟩; exact h2 _ a b
theorem rTg_12 (hk : okNet P T tk pt fi) {b k : Nat} (h : rTg P T tk pt S b k) : b < 12 := by
  have := hk.2.1
  rcases h with h | h | h <;> omega
theorem ev_lookAhead (hd : 2 ≤ d) (hT : mWT m) (hO : m.1 c = some (.inr 5) ∧ c ≠ 0) (hk : okNet P T tk pt fi) (hR : rcR m c P T tk pt S) (hok : rcOk P S) (h300 : S.1 ≤ 300) (hN : ∀ k u, k < S.1 → u < T → rdyS P tk pt (S.2.1 k) u → S.2.2.2.2.2 k u < S.1) (hX : ∀ k u, k < S.1 → u < T → rdyS P tk pt (S.2.1 k) u → m.2.2.1 (64 * c + 6) (k * 10 + u) = nI (S.2.2.2.2.2 k u))
    (hQ : ∀ m', mTo (fun k => k = 64 * c + 7) (fun _ _ => False) m m' → (∀ k, k < S.1 → m'.2.2.1 (64 * c + 7) k = nI (laZ P T tk pt S k)) → Q none m') : mEv d 66 [.ref c] m Q := by
  obtain ⟨r1, r2, r3, r4, r5, r6, r7, r8, r9⟩ := id hR
  have hk2 := hk.2.1
  have hN1 := hok.1
  refine mEv.at (by omega) G66 (Nat.le_of_ble_eq_true rfl) ?_
  refine bk66_0 hT hO ?_
  -- the end
  have fin : ∀ (A : Nat → Nat) (m' : mMem), mTo (fun k => k = 64 * c + 7) (fun _ _ => False) m m' → (∀ k, k < S.1 → m'.2.2.1 (64 * c + 7) k = nI (A k)) → laI P T tk pt S A → (∀ k, k < S.1 → ∀ b, b < 12 → rEv P T tk pt S (rTg P T tk pt S b) k → (A k).testBit b = true) → Q none m' := by
    intro A m' T' hA hI hJ
    refine hQ m' T' (fun k hk' => ?_)
    rw [hA k hk']
    exact congrArg nI (la_bits (hI k hk').1 (hI k hk').2 (hJ k hk'))
  -- rounds
  have rounds : ∀ n, n ≤ S.1 + 1 → ∀ (A : Nat → Nat) (ch : Int32) (o3 o4 : Option Value) (m' : mMem), mTo (fun k => k = 64 * c + 7) (fun _ _ => False) m m' → (∀ k, k < S.1 → m'.2.2.1 (64 * c + 7) k = nI (A k)) → laI P T tk pt S A → (∀ k, k < S.1 → laJ P T tk pt S A n k) → (ch = 0 → ∀ k, k < S.1 → laC P T tk pt S A k) → mEs (d - 1) 66 c g66 (61, [some (.ref c), some (.int ch), some (.int (nI n)), o3, o4], [], m') Q := by
    refine upto ?_ ?_
    · intro A ch o3 o4 m' T' hA hI hJ hC
      refine bk66_61 T'.wt (T'.ob hO) ?_
      rw [T'.nf id, r3, nI_ltI (by omega) (by omega)]
      refine ⟨fun _ => fin A m' T' hA hI (fun k hk' b hb h => hJ k hk' b hb ?_), fun c => by omega⟩
      exact Or.inl (rEv_fin hN hk' h)
    · intro n hn ih A ch o3 o4 m' T' hA hI hJ hC
      refine bk66_61 T'.wt (T'.ob hO) ?_
      rw [T'.nf id, r3, nI_ltI (by omega) (by omega)]
      refine ⟨fun c => by omega, fun _ => ⟨fun c0 => fin A m' T' hA hI (fun k hk' b hb h => ?_), fun c0 => ?_⟩⟩
      · exact rEv_ind (C := rTg P T tk pt S b) (X := fun k => (A k).testBit b = true) hN (fun k hk' h => hJ k hk' b hb (by have z := rTo_mono (P := P) (T := T) (tk := tk) (pt := pt) (S := S) (C := rTg P T tk pt S b) (n := 0) h n; rw [Nat.zero_add] at z; exact z)) (fun k t hk' ht hr h => hC c0 k hk' t ht hr b h) k hk' h
      · rintro v1 rfl
        -- down from the last one
        have down : ∀ i, i ≤ S.1 → ∀ (A : Nat → Nat) (ch : Int32) (o4 : Option Value) (m' : mMem), mTo (fun k => k = 64 * c + 7) (fun _ _ => False) m m' → (∀ k, k < S.1 → m'.2.2.1 (64 * c + 7) k = nI (A k)) → laI P T tk pt S A → (∀ k, k < S.1 → laJ P T tk pt S A n k) → (∀ k, i ≤ k → k < S.1 → laJ P T tk pt S A (n + 1) k) → (ch = 0 → ∀ k, i ≤ k → k < S.1 → laC P T tk pt S A k) → mEs (d - 1) 66 c g66 (82, [some (.ref c), some (.int ch), some (.int (nI n)), some (.int (nI i - 1)), o4], [], m') Q := by
          intro i
          induction i with
          | zero =>
            intro _ A ch o4 m' T' hA hI hJ hJ2 hC
            refine bk66_82 T'.wt (T'.ob hO) ⟨fun _ => ?_, fun c => absurd (by decide) c⟩
            rintro v1 rfl
            rw [nIinc]
            exact ih A ch _ _ m' T' hA hI (fun k hk' => hJ2 k (Nat.zero_le _) hk') (fun z k hk' => hC z k (Nat.zero_le _) hk')
          | succ i ihi =>
            intro hi A ch o4 m' T' hA hI hJ hJ2 hC
            have R' := hR.to T' (by omega) id id id
            have e1 : nI (i + 1) - 1 = nI i := by rw [nIdec (by omega)]; rfl
            refine bk66_82 T'.wt (T'.ob hO) ?_
            rw [e1, nI_clamp (by omega), hA i (by omega)]
            refine ⟨fun c => absurd c (nI_nlt0 (by omega)), fun _ => ⟨(nIin_iff (by omega)).mpr (by omega), ?_⟩⟩
            refine ev_aheadOf (A := A) (by omega) T'.wt (T'.ob hO) hk R' h300 (by omega) hN (by rw [T'.i (by omega)]; exact hX) hA ?_
            have hlt : aoN P tk pt S A i T < 2 ^ 12 := aoN_lt T (fun u hu hr => (hI _ (hN i u (by omega) hu hr)).1)
            have hB : A i ||| aoN P tk pt S A i T < 2 ^ 12 := Nat.or_lt_two_pow (hI i (by omega)).1 hlt
            have sub : ∀ k b, (A k).testBit b = true → (updN A i (A i ||| aoN P tk pt S A i T) k).testBit b = true := by
              intro k b q
              by_cases e : k = i
              · subst e; rw [updN_s, Nat.testBit_or, q]; rfl
              · rw [updN_n e]; exact q
            have nxt : ∀ (ch : Int32) (m2 : mMem), m2 = mSetI m' (64 * c + 7) (upd (m'.2.2.1 (64 * c + 7)) i (nI (A i ||| aoN P tk pt S A i T))) → (ch = 0 → (A i ||| aoN P tk pt S A i T) = A i ∧ ∀ k, i + 1 ≤ k → k < S.1 → laC P T tk pt S A k) → ∀ o4 : Option Value, mEs (d - 1) 66 c g66 (82, [some (.ref c), some (.int ch), some (.int (nI n)), some (.int (nI i + (-1))), o4], [], m2) Q := by
              intro ch m2 em2 hch o4
              obtain ⟨t2, a7⟩ := sI1 em2 T'.wt
              rw [show nI i + (-1) = nI i - 1 by rw [Int32.sub_eq_add_neg]]
              refine ihi (by omega) (updN A i (A i ||| aoN P tk pt S A i T)) ch o4 m2 (T'.tr t2) (fun k hk' => ?_) (fun k hk' => ?_) (fun k hk' b hb h => sub k b (hJ k hk' b hb h)) (fun k h1 h2 b hb h => ?_) (fun z k h1 h2 => ?_)
              · rw [a7]
                by_cases e : k = i
                · subst e; rw [up_s, updN_s]
                · rw [up_n e, updN_n e]; exact hA k hk'
              · by_cases e : k = i
                · subst e
                  rw [updN_s]
                  refine ⟨hB, fun b q => ?_⟩
                  rw [Nat.testBit_or, Bool.or_eq_true, aoN_tb] at q
                  rcases q with q | ⟨u, h1, h2, h3⟩
                  · exact (hI k hk').2 b q
                  · exact rEv_s h1 h2 ((hI _ (hN k u hk' h1 h2)).2 b h3)
                · rw [updN_n e]; exact hI k hk'
              · by_cases e : k = i
                · subst e
                  rw [updN_s, Nat.testBit_or, Bool.or_eq_true, aoN_tb]
                  rcases h with h | ⟨t, g1, g2, g3⟩
                  · exact Or.inl (hJ k h2 b hb h)
                  · exact Or.inr ⟨t, g1, g2, hJ _ (hN k t h2 g1 g2) b hb g3⟩
                · exact sub k b (hJ2 k (by omega) h2 b hb h)
              · obtain ⟨eA, hc⟩ := hch z
                have eA' : updN A i (A i ||| aoN P tk pt S A i T) = A := by
                  rw [eA]
                  funext j
                  by_cases e : j = i
                  · subst e; rw [updN_s]
                  · rw [updN_n e]
                rw [eA']
                by_cases e : k = i
                · subst e
                  intro t ht hr b q
                  rw [← eA, Nat.testBit_or, Bool.or_eq_true, aoN_tb]
                  exact Or.inr ⟨t, ht, hr, q⟩
                · exact hc k (by omega) h2
            refine bk66_97 T'.wt (T'.ob hO) ?_
            rintro v1 rfl
            rw [or_n, nI_clamp (by omega), hA i (by omega), nIeq (by omega) (by have := (hI i (by omega)).1; omega)]
            refine ⟨fun cc => ⟨(nIin_iff (by omega)).mpr (by omega), ?_⟩, fun cc => ⟨(nIin_iff (by omega)).mpr (by omega), fun c2 => ⟨(nIin_iff (by omega)).mpr (by omega), ?_⟩, fun c2 => ⟨(nIin_iff (by omega)).mpr (by omega), ?_⟩⟩⟩
            · rintro m2 em2 v4 rfl
              exact nxt 1 m2 em2 (fun z => absurd z (by decide)) _
            · rintro m2 em2 v4 rfl
              exact nxt 0 m2 em2 (fun _ => ⟨c2, hC (Classical.not_not.mp cc)⟩) _
            · rintro m2 em2 v4 rfl
              exact nxt 1 m2 em2 (fun z => absurd z (by decide)) _
        exact down S.1 (Nat.le_refl _) A 0 _ m' T' hA hI hJ (fun k h1 h2 => by omega) (fun _ k h1 h2 => by omega)
  -- the first bits
  have ini : ∀ k, k < S.1 → ∃ v, v < 2 ^ 12 ∧ ∀ b, v.testBit b = true ↔ rTg P T tk pt S b k := by
    intro k hk'
    refine ⟨bs (fun b => rTg P T tk pt S b k) 12, bs_lt _ _, fun b => ?_⟩
    rw [bs_tb]
    exact ⟨fun q => q.2, fun q => ⟨rTg_12 hk q, q⟩⟩
  have a0 : ∀ i, i ≤ S.1 → ∀ (o2 o3 o4 : Option Value) (m' : mMem), mTo (fun k => k = 64 * c + 7) (fun _ _ => False) m m' → (∀ k, k < i → m'.2.2.1 (64 * c + 7) k = nI (bs (fun b => rTg P T tk pt S b k) 12)) → mEs (d - 1) 66 c g66 (2, [some (.ref c), some (.int (nI i)), o2, o3, o4], [], m') Q := by
    refine upto ?_ ?_
    · intro o2 o3 o4 m' T' hA
      refine bk66_2 T'.wt (T'.ob hO) ?_
      rw [T'.nf id, r3, nIle (by omega) (by omega)]
      refine ⟨fun _ => ?_, fun c => absurd (Nat.le_refl _) c⟩
      refine rounds 0 (Nat.zero_le _) (fun k => bs (fun b => rTg P T tk pt S b k) 12) 1 _ _ m' T' hA (fun k hk' => ⟨bs_lt _ _, fun b q => rEv_c ((bs_tb _ _ _).mp q).2⟩) (fun k hk' b hb h => (bs_tb _ _ _).mpr ⟨hb, h⟩) (fun z => absurd z (by decide))
    · intro i hi ih o2 o3 o4 m' T' hA
      have hbs := bs_small (rdyS P tk pt (S.2.1 i)) hk2
      refine bk66_2 T'.wt (T'.ob hO) ?_
      have go : ∀ (x y : Nat), (∀ b, (bs (rdyS P tk pt (S.2.1 i)) T ||| x ||| y).testBit b = true ↔ rTg P T tk pt S b i) → ∀ (m2 : mMem), m2 = mSetI m' (64 * c + 7) (upd (m'.2.2.1 (64 * c + 7)) i (nI (bs (rdyS P tk pt (S.2.1 i)) T ||| x ||| y))) → mEs (d - 1) 66 c g66 (2, [some (.ref c), some (.int (nI (i + 1))), o2, o3, o4], [], m2) Q := by
        intro x y hxy m2 em2
        obtain ⟨t2, a7⟩ := sI1 em2 T'.wt
        refine ih _ _ _ m2 (T'.tr t2) (fun k hk' => ?_)
        rw [a7]
        by_cases e : k = i
        · subst e
          rw [up_s]
          refine congrArg nI (tb_ext fun b => ?_)
          rw [hxy, bs_tb]
          exact ⟨fun q => ⟨rTg_12 hk q, q⟩, fun q => q.2⟩
        · rw [up_n e]; exact hA k (by omega)
      rw [T'.nf id, r3, nIle (by omega) (by omega), nI_clamp (by omega), T'.i (show ¬ 64 * c + 3 = 64 * c + 7 by omega), r5 i hi, nIinc, nIeq0 (by omega), nIeq0 (by omega), show (0 : Int32) = nI 0 from rfl, show (1024 : Int32) = nI 1024 from rfl, show (2048 : Int32) = nI 2048 from rfl]
      simp only [or_n]
      have t10 : ∀ b, (1024 : Nat).testBit b = true ↔ b = 10 := fun b => by rw [show 1024 = 2 ^ 10 from rfl, Nat.testBit_two_pow, decide_eq_true_eq]; exact eq_comm
      have t11 : ∀ b, (2048 : Nat).testBit b = true ↔ b = 11 := fun b => by rw [show 2048 = 2 ^ 11 from rfl, Nat.testBit_two_pow, decide_eq_true_eq]; exact eq_comm
      have t0 : ∀ b, ¬ (0 : Nat).testBit b = true := fun b => by rw [Nat.zero_testBit]; decide
      have dd : (∀ t, t < T → ¬ rdyS P tk pt (S.2.1 i) t) ↔ bs (rdyS P tk pt (S.2.1 i)) T = 0 := bs_zero.symm
      have key : ∀ x y b, (bs (rdyS P tk pt (S.2.1 i)) T ||| x ||| y).testBit b = true ↔ ((b < T ∧ rdyS P tk pt (S.2.1 i) b) ∨ x.testBit b = true) ∨ y.testBit b = true := fun x y b => by rw [Nat.testBit_or, Nat.testBit_or, Bool.or_eq_true, Bool.or_eq_true, bs_tb]
      refine ⟨fun c => by omega, fun _ => ⟨(nIin_iff (by omega)).mpr (by omega), (nIin_iff (by omega)).mpr (by omega), fun c1 => ⟨fun c2 => ⟨(nIin_iff (by omega)).mpr (by omega), fun m2 em2 => ?_⟩, fun c2 => ⟨(nIin_iff (by omega)).mpr (by omega), fun m2 em2 => ?_⟩⟩, fun c1 => ⟨fun c2 => ⟨(nIin_iff (by omega)).mpr (by omega), fun m2 em2 => ?_⟩, fun c2 => ⟨(nIin_iff (by omega)).mpr (by omega), fun m2 em2 => ?_⟩⟩⟩⟩
      · rintro v rfl
        refine go 0 0 (fun b => ?_) m2 em2
        rw [key]
        unfold rTg
        rw [dd]
        exact ⟨fun h => (h.resolve_right (t0 b)).imp_right (fun z => absurd z (t0 b)), fun h => Or.inl (h.imp_right (fun z => by rcases z with z | z; exact absurd z.2 c2; exact absurd z.2 c1))⟩
      · rintro v rfl
        have c2' := Classical.not_not.mp c2
        refine go 0 1024 (fun b => ?_) m2 em2
        rw [key, t10]
        unfold rTg
        rw [dd]
        constructor
        · rintro ((h | h) | h)
          · exact Or.inl h
          · exact absurd h (t0 b)
          · exact Or.inr (Or.inl ⟨h, c2'⟩)
        · rintro (h | h | h)
          · exact Or.inl (Or.inl h)
          · exact Or.inr h.1
          · exact absurd h.2 c1
      · rintro v rfl
        have c1' := Classical.not_not.mp c1
        refine go 2048 0 (fun b => ?_) m2 em2
        rw [key, t11]
        unfold rTg
        rw [dd]
        constructor
        · rintro ((h | h) | h)
          · exact Or.inl h
          · exact Or.inr (Or.inr ⟨h, c1'⟩)
          · exact absurd h (t0 b)
        · rintro (h | h | h)
          · exact Or.inl (Or.inl h)
          · exact absurd h.2 c2
          · exact Or.inl (Or.inr h.1)
      · rintro v rfl
        have c1' := Classical.not_not.mp c1
        have c2' := Classical.not_not.mp c2
        refine go 2048 1024 (fun b => ?_) m2 em2
        rw [key, t11, t10]
        unfold rTg
        rw [dd]
        constructor
        · rintro ((h | h) | h)
          · exact Or.inl h
          · exact Or.inr (Or.inr ⟨h, c1'⟩)
          · exact Or.inr (Or.inl ⟨h, c2'⟩)
        · rintro (h | h | h)
          · exact Or.inl (Or.inl h)
          · exact Or.inr h.1
          · exact Or.inl (Or.inr h.1)
  exact a0 0 (Nat.zero_le _) _ _ _ m (mTo.rf hT) (fun k hk' => absurd hk' (Nat.not_lt_zero _))
end CRC4
