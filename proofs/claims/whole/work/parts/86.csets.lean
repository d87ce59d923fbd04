/-! The class Sets: contracts. -/
def dfB (a b : Nat) : Nat := a &&& (b ^^^ 1023)
theorem bt_nI {n i : Nat} (h : i < 32) : bt (nI n) i = n.testBit i := by
  unfold bt
  rw [show (nI n).toBitVec = BitVec.ofNat 32 n from rfl, BitVec.getLsbD_ofNat, decide_eq_true h, Bool.true_and]
theorem tb_big {a i : Nat} (h : a < 1024) (hi : 10 ≤ i) : a.testBit i = false := Nat.testBit_lt_two_pow (Nat.lt_of_lt_of_le h (show 2 ^ 10 ≤ 2 ^ i from Nat.pow_le_pow_right (by decide) hi))
theorem tb_1023 {i : Nat} : (1023 : Nat).testBit i = decide (i < 10) := by
  rw [show 1023 = 2 ^ 10 - 1 from rfl, Nat.testBit_two_pow_sub_one]
theorem dfB_tb {a b i : Nat} (h : a < 1024) : (dfB a b).testBit i = true ↔ a.testBit i = true ∧ ¬ b.testBit i = true := by
  unfold dfB
  rw [Nat.testBit_and, Nat.testBit_xor, tb_1023, Bool.and_eq_true]
  by_cases q : i < 10
  · rw [decide_eq_true q]
    cases a.testBit i <;> cases b.testBit i <;> decide
  · rw [tb_big h (by omega)]
    exact ⟨fun z => absurd z.1 (by decide), fun z => absurd z.1 (by decide)⟩
theorem dfB_lt {a b : Nat} (h : a < 1024) : dfB a b < 1024 := Nat.lt_of_le_of_lt Nat.and_le_left h
theorem dfB_0 {a b : Nat} (h : a < 1024) : dfB a b = 0 ↔ sbN a b := by
  rw [tb_zero]
  constructor
  · intro q i hi
    refine Classical.byContradiction fun z => q i ((dfB_tb h).mpr ⟨hi, z⟩)
  · intro q i hi
    have := (dfB_tb h).mp hi
    exact this.2 (q i this.1)
theorem not_n {a b : Nat} (ha : a < 1024) : nI a &&& (nI b ^^^ (-1)) = nI (dfB a b) := by
  refine b_ext fun i hi => ?_
  rw [b_and, b_xor, bt_nI hi, bt_nI hi, bt_nI hi, b_m1 i hi]
  rw [Bool.eq_iff_iff, dfB_tb ha, Bool.and_eq_true]
  cases a.testBit i <;> cases b.testBit i <;> decide
theorem and_0sb {a b c : Nat} (h : sbN a b) (h2 : c &&& b = 0) : c &&& a = 0 := by
  rw [and_zero] at h2 ⊢
  exact fun i q => h2 i ⟨q.1, h i q.2⟩
/-- the greatest trap within -/
def isGT (T : Nat) (tb pb : Nat → Nat) (s r : Nat) : Prop := sbN r s ∧ cloN T tb pb r ∧ ∀ x, sbN x s → cloN T tb pb x → sbN x r
noncomputable def gtN (T : Nat) (tb pb : Nat → Nat) (s : Nat) : Nat := Classical.epsilon (isGT T tb pb s)
theorem gtN_eq {T : Nat} {tb pb : Nat → Nat} {s r : Nat} (h : isGT T tb pb s r) : gtN T tb pb s = r := by
  have h2 : isGT T tb pb s (gtN T tb pb s) := Classical.epsilon_spec ⟨r, h⟩
  exact sb_an (h.2.2 _ h2.1 h2.2.1) (h2.2.2 _ h.1 h.2.1)
/-- all that is so far left: all traps are in it -/
def gtI (T : Nat) (tb pb : Nat → Nat) (s r : Nat) : Prop := sbN r s ∧ ∀ x, sbN x s → cloN T tb pb x → sbN x r
theorem gt_step {T : Nat} {tb pb : Nat → Nat} {s r t : Nat} (h : gtI T tb pb s r) (hr : r < 1024) (ht : t < T) (h0 : pb t &&& r = 0) : gtI T tb pb s (dfB r (tb t)) := by
  refine ⟨fun i hi => h.1 i ((dfB_tb hr).mp hi).1, fun x h1 h2 i hi => (dfB_tb hr).mpr ⟨h.2 x h1 h2 i hi, fun z => ?_⟩⟩
  have : ¬ tb t &&& x = 0 := by
    rw [and_zero]
    exact fun q => q i ⟨z, hi⟩
  exact h2 t ht this (and_0sb (h.2 x h1 h2) h0)
theorem pc_sub {x y : Nat} (h : sbN x y) (hy : y < 1024) (hn : x ≠ y) : pcN x < pcN y := by
  have hx : x < 1024 := Nat.lt_of_le_of_lt (sb_le h) hy
  rw [pc_ct (k := 10) hx (by omega), pc_ct (k := 10) hy (by omega)]
  have e : fb_ct (fun i => y.testBit i) 10 = fb_ct (fun i => x.testBit i || (y.testBit i && !x.testBit i)) 10 := fb_ct_cong fun k _ => by
    have := h k
    cases hx' : x.testBit k
    · cases y.testBit k <;> rfl
    · rw [this hx']; rfl
  rw [e, fb_ct_or (fun k _ z => by rw [Bool.and_eq_true] at z; have := z.2.2; rw [z.1] at this; cases this)]
  have : 0 < fb_ct (fun i => y.testBit i && !x.testBit i) 10 := by
    rw [fb_ct_pos]
    refine Classical.byContradiction fun z => hn (sb_an h fun i hi => ?_)
    refine Classical.byContradiction fun w => z ⟨i, Nat.lt_of_not_le fun g => ?_, ?_⟩
    · rw [tb_big hy g] at hi; cases hi
    · show (y.testBit i && !x.testBit i) = true
      rw [hi, Bool.not_eq_true _ |>.mp w]; rfl
  exact Nat.lt_add_of_pos_right this
theorem pc_10 {x : Nat} (h : x < 1024) : pcN x ≤ 10 := by rw [pc_ct (k := 10) h (by omega)]; exact fb_ct_le _ _
section CSET
variable {d c n P T r lr s : Nat} {tk pt : Nat → Nat → Nat} {fi mk : Nat → Nat} {a b tb pb f : Nat → Nat} {m : mMem} {Q : Option Value → mMem → Prop}
theorem ev_isClosed {x2 x3 l2 l3 : Nat} (hd : 1 ≤ d) (hT : mWT m) (hO : m.1 c = some (.inr 6) ∧ c ≠ 0) (h7 : iF m c 7 = nI T) (hk : T ≤ 10) (hA : m.1 x2 = some (.inl (.int, l2)) ∧ x2 ≠ 0) (hB : m.1 x3 = some (.inl (.int, l3)) ∧ x3 ≠ 0) (hl2 : 10 ≤ l2) (hl3 : 10 ≤ l3) (ha : ∀ t, t < T → m.2.2.1 x2 t = nI (a t)) (hb : ∀ t, t < T → m.2.2.1 x3 t = nI (b t)) (ha2 : ∀ t, a t < 1024) (hb2 : ∀ t, b t < 1024) (hQ : Q (some (.int (bz (cloN T a b s)))) m) : mEv d 104 [.ref c, .int (nI s), .ref x2, .ref x3] m Q := by
  refine mEv.at (by omega) G104 (Nat.le_of_ble_eq_true rfl) ?_
  refine bk104_0 hT hO hA hB ?_
  refine upto (e := T) (X := fun t => (∀ u, u < t → ¬ a u &&& s = 0 → ¬ b u &&& s = 0) → mEs (d - 1) 104 c g104 (3, [some (.ref c), some (.int (nI s)), some (.ref x2), some (.ref x3), some (.int (nI t))], [], m) Q) ?_ ?_ 0 (Nat.zero_le _) (fun u hu => absurd hu (Nat.not_lt_zero _))
  · intro hq
    refine bk104_3 hT hO hA hB ?_
    rw [h7, nIle (by omega) (by omega)]
    rw [bz_t (C := cloN T a b s) hq] at hQ
    exact ⟨fun _ => hQ, fun c => absurd (Nat.le_refl _) c⟩
  · intro t ht ih hq
    have a1 : a t &&& s < 1024 := and_lt10 (ha2 t)
    have a2 : b t &&& s < 1024 := and_lt10 (hb2 t)
    refine bk104_3 hT hO hA hB ?_
    rw [h7, nIle (by omega) (by omega), nI_clamp (by omega), ha t ht, hb t ht, and_n, and_n, nIeq0 (by omega), nIeq0 (by omega), nIinc]
    have nx : (¬ a t &&& s = 0 → ¬ b t &&& s = 0) → mEs (d - 1) 104 c g104 (3, [some (.ref c), some (.int (nI s)), some (.ref x2), some (.ref x3), some (.int (nI (t + 1)))], [], m) Q := by
      intro h
      refine ih (fun u hu => ?_)
      by_cases e : u = t
      · subst e; exact h
      · exact hq u (by omega)
    refine ⟨fun c => by omega, fun _ => ⟨(nIin_iff (by omega)).mpr (by omega), fun c1 => ?_, fun c1 => ⟨(nIin_iff (by omega)).mpr (by omega), fun c2 => ?_, fun c2 => ?_⟩⟩⟩
    · rintro v rfl
      exact nx (fun z => absurd c1 z)
    · rintro v rfl
      exact nx (fun _ => c2)
    · rw [bz_f (C := cloN T a b s) (fun z => c2 (z t ht c1))] at hQ; exact hQ
theorem ev_holdsOne {x0 l0 N : Nat} (hd : 1 ≤ d) (hT : mWT m) (hA : m.1 x0 = some (.inl (.int, l0)) ∧ x0 ≠ 0) (hN : N ≤ l0) (hN2 : N < 2 ^ 31) (hf : ∀ k, k < N → m.2.2.1 x0 k = nI (f k)) (hf2 : ∀ k, k < N → f k < 1024) (hQ : Q (some (.int (bz (∃ k, k < N ∧ sbN (f k) s)))) m) : mEv d 105 [.ref x0, .int (nI N), .int (nI s)] m Q := by
  refine mEv.at (by omega) G105 (Nat.le_of_ble_eq_true rfl) ?_
  refine bk105_0 hT hA ?_
  refine upto (e := N) (X := fun k => (∀ j, j < k → ¬ sbN (f j) s) → mEs (d - 1) 105 _ g105 (2, [some (.ref x0), some (.int (nI N)), some (.int (nI s)), some (.int (nI k))], [], m) Q) ?_ ?_ 0 (Nat.zero_le _) (fun u hu => absurd hu (Nat.not_lt_zero _))
  · intro hq
    refine bk105_2 hT hA ?_
    rw [nIle (by omega) (by omega)]
    rw [bz_f (fun ⟨k, h1, h2⟩ => hq k h1 h2)] at hQ
    exact ⟨fun _ => hQ, fun c => absurd (Nat.le_refl _) c⟩
  · intro k hk' ih hq
    have h1 := hf2 k hk'
    have h2 := dfB_lt (b := s) h1
    refine bk105_2 hT hA ?_
    rw [nIle (by omega) (by omega), nI_clamp (by omega), hf k hk', not_n h1, nIeq0 (by omega), dfB_0 h1, nIinc]
    refine ⟨fun c => by omega, fun _ => ⟨(nIin_iff (by omega)).mpr (by omega), fun c1 => ?_, fun c1 => ?_⟩⟩
    · rintro v rfl
      refine ih (fun j hj => ?_)
      by_cases e : j = k
      · subst e; exact c1
      · exact hq j (by omega)
    · rw [bz_t ⟨k, hk', Classical.not_not.mp c1⟩] at hQ; exact hQ
noncomputable def kth (C : Nat → Prop) (N k : Nat) : Nat := lsN (fun i => C i ∧ cct C i = k) N
theorem kth_ok {C : Nat → Prop} {N k : Nat} (h : k < cct C N) : kth C N k < N ∧ C (kth C N k) ∧ cct C (kth C N k) = k := by
  obtain ⟨i, h1, h2, h3⟩ := cct_kth N h
  have e : kth C N k = i := by
    refine lsN_eq (by omega) (fun _ => ⟨h2, h3⟩) (fun j hj q => ?_)
    have := cct_inj q.1 h2 (by rw [q.2, h3])
    omega
  rw [e]; exact ⟨h1, h2, h3⟩
theorem kth_of {C : Nat → Prop} {N i : Nat} (h : i < N) (hc : C i) : kth C N (cct C i) = i := by
  refine lsN_eq (by omega) (fun _ => ⟨hc, rfl⟩) (fun j hj q => ?_)
  have := cct_inj q.1 hc q.2
  omega
theorem p2_10 (h : P ≤ 10) : 2 ^ P ≤ 1024 := Nat.pow_le_pow_right (n := 2) (by decide) h
theorem p2_1 : 1 ≤ 2 ^ P := Nat.two_pow_pos P
theorem ev_collect {x1 x2 x3 l2 l3 : Nat} (hd : 2 ≤ d) (hT : mWT m) (hO : m.1 c = some (.inr 6) ∧ c ≠ 0) (h7 : iF m c 7 = nI T) (hk : T ≤ 10) (hP : P ≤ 10) (hI : m.1 x1 = some (.inl (.int, 252)) ∧ x1 ≠ 0) (hA : m.1 x2 = some (.inl (.int, l2)) ∧ x2 ≠ 0) (hB : m.1 x3 = some (.inl (.int, l3)) ∧ x3 ≠ 0) (hl2 : 10 ≤ l2) (hl3 : 10 ≤ l3) (n2 : x2 ≠ x1) (n3 : x3 ≠ x1) (ha : ∀ t, t < T → m.2.2.1 x2 t = nI (a t)) (hb : ∀ t, t < T → m.2.2.1 x3 t = nI (b t)) (ha2 : ∀ t, a t < 1024) (hb2 : ∀ t, b t < 1024)
    (hQ : ∀ m', mTo (fun k => k = x1) (fun _ _ => False) m m' → (∀ i, i < 2 ^ P → mnS T a b i → m'.2.2.1 x1 (cct (mnS T a b) i) = nI i) → Q (some (.int (nI (cct (mnS T a b) (2 ^ P))))) m') : mEv d 103 [.ref c, .ref x1, .ref x2, .ref x3, .int (nI P)] m Q := by
  have hp2 := p2_10 hP
  have hp1 := p2_1 (P := P)
  have h252 := mn_252 (T := T) (a := a) (b := b)
  have m0 : ¬ mnS T a b 0 := fun z => z.1 rfl
  have cle : ∀ s, s ≤ 1024 → cct (mnS T a b) s ≤ 252 := fun s hs => Nat.le_trans (cct_mono hs) h252
  refine mEv.at (by omega) G103 (Nat.le_of_ble_eq_true rfl) ?_
  refine bk103_0 hT hO hI hA hB ?_
  have go : ∀ s, s ≤ 2 ^ P → 1 ≤ s → ∀ m', mTo (fun k => k = x1) (fun _ _ => False) m m' → (∀ i, i < s → mnS T a b i → m'.2.2.1 x1 (cct (mnS T a b) i) = nI i) → mEs (d - 1) 103 c g103 (6, [some (.ref c), some (.ref x1), some (.ref x2), some (.ref x3), some (.int (nI P)), some (.int (nI (cct (mnS T a b) s))), some (.int (nI s))], [], m') Q := by
    refine upto ?_ ?_
    · intro _ m' T' hI'
      refine bk103_6 T'.wt (T'.ob hO) (T'.ob hI) (T'.ob hA) (T'.ob hB) ?_
      rw [shl1 (by omega), nIle (by omega) (by omega)]
      exact ⟨fun _ => hQ m' T' hI', fun c => absurd (Nat.le_refl _) c⟩
    · intro s hs ih h1 m' T' hI'
      have hc := cle s (by omega)
      have skip : ¬ mnS T a b s → mEs (d - 1) 103 c g103 (6, [some (.ref c), some (.ref x1), some (.ref x2), some (.ref x3), some (.int (nI P)), some (.int (nI (cct (mnS T a b) s))), some (.int (nI (s + 1)))], [], m') Q := by
        intro hn
        have := ih (by omega) m' T' (fun i hi q => hI' i (by
          by_cases e : i = s
          · subst e; exact absurd q hn
          · omega) q)
        rw [cct_f hn] at this
        exact this
      refine bk103_6 T'.wt (T'.ob hO) (T'.ob hI) (T'.ob hA) (T'.ob hB) ?_
      rw [shl1 (by omega), nIle (by omega) (by omega), l252, nIle (by omega) (by omega), nIinc]
      refine ⟨fun c => by omega, fun _ => ⟨fun cf => ?_, fun cf => ?_⟩⟩
      · rintro v rfl
        refine skip (fun z => ?_)
        have := cle (s + 1) (by omega)
        rw [cct_t z] at this
        omega
      · refine ev_isClosed (a := a) (b := b) (by omega) T'.wt (T'.ob hO) (by rw [T'.nf id]; exact h7) hk (T'.ob hA) (T'.ob hB) hl2 hl3 (by rw [T'.i n2]; exact ha) (by rw [T'.i n3]; exact hb) ha2 hb2 ?_
        refine bk103_31 T'.wt (T'.ob hO) (T'.ob hI) (T'.ob hA) (T'.ob hB) ?_
        rw [bz_0, nIinc]
        refine ⟨fun cc => ?_, fun cc => ?_⟩
        · rintro v rfl
          exact skip (fun z => cc z.2.1)
        · have cc' := Classical.not_not.mp cc
          refine ev_holdsOne (f := kth (mnS T a b) s) (N := cct (mnS T a b) s) (by omega) T'.wt (T'.ob hI) (by omega) (by omega) (fun k hk' => ?_) (fun k hk' => ?_) ?_
          · obtain ⟨g1, g2, g3⟩ := kth_ok hk'
            have := hI' _ g1 g2
            rw [g3] at this
            exact this
          · have := (kth_ok hk').1
            omega
          · refine bk103_42 T'.wt (T'.ob hO) (T'.ob hI) (T'.ob hA) (T'.ob hB) ?_
            rw [bz_n0, nIinc, nIinc, nI_clamp (by omega)]
            refine ⟨fun ch => ?_, fun ch => ⟨(nIin_iff (by omega)).mpr (by omega), fun m2 em2 => ?_⟩⟩
            · rintro v rfl
              obtain ⟨k, hk', hsb⟩ := ch
              obtain ⟨g1, g2, g3⟩ := kth_ok hk'
              refine skip (fun z => ?_)
              have := mn_an g2 z hsb
              omega
            · obtain ⟨t2, a1⟩ := sI1 em2 T'.wt
              have hs' : mnS T a b s := by
                refine ⟨by omega, cc', fun x x1 x2 x3 x4 => ch ?_⟩
                obtain ⟨y, y1, y2⟩ := mn_ex x x1 x4
                have hle := sb_le x2
                have hle2 := sb_le y1
                have hys : y < s := by omega
                refine ⟨cct (mnS T a b) y, ?_, ?_⟩
                · have := cct_mono (C := mnS T a b) (show y + 1 ≤ s from hys)
                  rw [cct_t y2] at this
                  omega
                · rw [kth_of hys y2]
                  exact sb_tr y1 x2
              rintro v rfl v2 rfl
              have := ih (by omega) m2 (T'.tr t2) (fun i hi q => ?_)
              · rw [cct_t hs'] at this; exact this
              · rw [a1]
                by_cases e : i = s
                · subst e; rw [up_s]
                · rw [up_n (fun z => e (cct_inj q hs' z))]
                  exact hI' i (by omega) q
  have := go 1 hp1 (Nat.le_refl _) m (mTo.rf hT) (fun i hi q => absurd q (by rw [show i = 0 by omega]; exact m0))
  rw [cct_f m0] at this
  exact this
/-- siphons and traps as they lie in the class -/
def setC (m : mMem) (c P T : Nat) (tb pb : Nat → Nat) : Prop := (m.1 c = some (.inr 6) ∧ c ≠ 0) ∧ iF m c 7 = nI T ∧ (∀ t, t < T → m.2.2.1 (64 * c + 3) t = nI (tb t)) ∧ (∀ t, t < T → m.2.2.1 (64 * c + 4) t = nI (pb t)) ∧ iF m c 5 = nI (cct (mnS T pb tb) (2 ^ P)) ∧ iF m c 6 = nI (cct (mnS T tb pb) (2 ^ P)) ∧ (∀ i, i < 2 ^ P → mnS T pb tb i → m.2.2.1 (64 * c + 1) (cct (mnS T pb tb) i) = nI i) ∧ (∀ i, i < 2 ^ P → mnS T tb pb i → m.2.2.1 (64 * c + 2) (cct (mnS T tb pb) i) = nI i)
def stA (c k : Nat) : Prop := 64 * c + 1 ≤ k ∧ k ≤ 64 * c + 4
def stF (c k f : Nat) : Prop := k = c ∧ (f = 5 ∨ f = 6 ∨ f = 7)
noncomputable def tbS (P : Nat) (tk : Nat → Nat → Nat) (t : Nat) : Nat := plB P (tk t)
theorem ev_setBuild (hd : 3 ≤ d) (hT : mWT m) (hO : m.1 c = some (.inr 6) ∧ c ≠ 0) (hN : cNet m n P T tk pt fi) (hk : okNet P T tk pt fi) (hnc : n ≠ c)
    (hQ : ∀ m', mTo (stA c) (stF c) m m' → setC m' c P T (tbS P tk) (tbS P pt) → Q none m') : mEv d 99 [.ref c, .ref n] m Q := by
  have hP10 := hk.1
  have hk2 := hk.2.1
  have tl : ∀ (f : Nat → Nat → Nat) t, tbS P f t < 1024 := fun f t => plB_lt _ hP10
  refine mEv.at (by omega) G99 (Nat.le_of_ble_eq_true rfl) ?_
  refine bk99_0 hT hO hN.1 ?_
  intro m1 em1
  rw [hN.2.2.1] at em1
  obtain ⟨t1, e7⟩ := sF1 em1 hT hO (by decide)
  have T1 : mTo (stA c) (stF c) m m1 := t1.mono (fun _ h => h.elim) (fun k f h => ⟨h.1, by omega⟩)
  refine upto (e := T) (X := fun t => ∀ m', mTo (stA c) (stF c) m m' → iF m' c 7 = nI T → (∀ u, u < t → m'.2.2.1 (64 * c + 3) u = nI (tbS P tk u)) → (∀ u, u < t → m'.2.2.1 (64 * c + 4) u = nI (tbS P pt u)) → mEs (d - 1) 99 c g99 (10, [some (.ref c), some (.ref n), some (.int (nI t))], [], m') Q) ?_ ?_ 0 (Nat.zero_le _) m1 T1 e7 (fun u hu => absurd hu (Nat.not_lt_zero _)) (fun u hu => absurd hu (Nat.not_lt_zero _))
  · intro m' T' z7 y3 y4
    have gN := hN.to T' (by unfold stA; omega) (by unfold stA; omega) (by unfold stA; omega) (by unfold stF; omega) (by unfold stF; omega)
    refine bk99_10 T'.wt (T'.ob hO) (T'.ob hN.1) ?_
    rw [z7, nIle (by omega) (by omega), gN.2.1]
    refine ⟨fun _ => ?_, fun c => absurd (Nat.le_refl _) c⟩
    refine ev_collect (a := tbS P pt) (b := tbS P tk) (by omega) T'.wt (T'.ob hO) z7 hk2 hP10 (T'.wt.arr (T'.ob hO) 0 rfl (by decide)) (T'.wt.arr (T'.ob hO) 3 rfl (by decide)) (T'.wt.arr (T'.ob hO) 2 rfl (by decide)) (Nat.le_refl _) (Nat.le_refl _) (by omega) (by omega) y4 y3 (tl pt) (tl tk) ?_
    intro m2 t2 I1
    have T2 : mTo (stA c) (stF c) m m2 := T'.tr (t2.mono (fun k h => by unfold stA; omega) (fun _ _ h => h.elim))
    refine bk99_67 T2.wt (T2.ob hO) (T2.ob hN.1) (T2.ob hO) ?_
    intro m3 em3
    obtain ⟨t3, e5⟩ := sF1 em3 T2.wt (T2.ob hO) (by decide)
    have T3 : mTo (stA c) (stF c) m m3 := T2.tr (t3.mono (fun _ h => h.elim) (fun k f h => ⟨h.1, by omega⟩))
    have gN3 := hN.to T3 (by unfold stA; omega) (by unfold stA; omega) (by unfold stA; omega) (by unfold stF; omega) (by unfold stF; omega)
    rw [gN3.2.1]
    have y3' : ∀ u, u < T → m3.2.2.1 (64 * c + 3) u = nI (tbS P tk u) := by rw [t3.i id, t2.i (by omega)]; exact y3
    have y4' : ∀ u, u < T → m3.2.2.1 (64 * c + 4) u = nI (tbS P pt u) := by rw [t3.i id, t2.i (by omega)]; exact y4
    have z7' : iF m3 c 7 = nI T := by rw [t3.nf (by omega), t2.nf id]; exact z7
    refine ev_collect (a := tbS P tk) (b := tbS P pt) (by omega) T3.wt (T3.ob hO) z7' hk2 hP10 (T3.wt.arr (T3.ob hO) 1 rfl (by decide)) (T3.wt.arr (T3.ob hO) 2 rfl (by decide)) (T3.wt.arr (T3.ob hO) 3 rfl (by decide)) (Nat.le_refl _) (Nat.le_refl _) (by omega) (by omega) y3' y4' (tl tk) (tl pt) ?_
    intro m4 t4 I2
    have T4 : mTo (stA c) (stF c) m m4 := T3.tr (t4.mono (fun k h => by unfold stA; omega) (fun _ _ h => h.elim))
    refine bk99_91 T4.wt (T4.ob hO) (T4.ob hN.1) (T4.ob hO) ?_
    intro m5 em5
    obtain ⟨t5, e6⟩ := sF1 em5 T4.wt (T4.ob hO) (by decide)
    have T5 : mTo (stA c) (stF c) m m5 := T4.tr (t5.mono (fun _ h => h.elim) (fun k f h => ⟨h.1, by omega⟩))
    refine hQ m5 T5 ⟨T5.ob hO, by rw [t5.nf (by omega), t4.nf id]; exact z7', by rw [t5.i id, t4.i (by omega)]; exact y3', by rw [t5.i id, t4.i (by omega)]; exact y4', by rw [t5.nf (by omega), t4.nf id]; exact e5, e6, by rw [t5.i id, t4.i (by omega), t3.i id]; exact I1, by rw [t5.i id]; exact I2⟩
  · intro t ht ih m' T' z7 y3 y4
    have gN := hN.to T' (by unfold stA; omega) (by unfold stA; omega) (by unfold stA; omega) (by unfold stF; omega) (by unfold stF; omega)
    refine bk99_10 T'.wt (T'.ob hO) (T'.ob hN.1) ?_
    rw [z7, nIle (by omega) (by omega)]
    refine ⟨fun c => by omega, fun _ => ?_⟩
    refine ev_takenFrom (by omega) T'.wt gN hk (by omega) ?_
    refine bk99_28 T'.wt (T'.ob hO) (T'.ob hN.1) (ly0 := 10) (T'.wt.arr (T'.ob hO) 2 rfl (by decide)) ⟨(nIin_iff (by omega)).mpr (by omega), fun m2 em2 => ?_⟩
    rw [nI_clamp (by omega)] at em2
    obtain ⟨t2, a3⟩ := sI1 em2 T'.wt
    have T2 : mTo (stA c) (stF c) m m2 := T'.tr (t2.mono (fun k h => by unfold stA; omega) (fun _ _ h => h.elim))
    refine ev_putInto (by omega) T2.wt (gN.to t2 (by omega) (by omega) (by omega) id id) hk (by omega) ?_
    refine bk99_39 T2.wt (T2.ob hO) (T2.ob hN.1) (ly0 := 10) (T2.wt.arr (T2.ob hO) 3 rfl (by decide)) ⟨(nIin_iff (by omega)).mpr (by omega), fun m3 em3 => ?_⟩
    rw [nI_clamp (by omega)] at em3
    obtain ⟨t3, a4⟩ := sI1 em3 T2.wt
    have T3 : mTo (stA c) (stF c) m m3 := T2.tr (t3.mono (fun k h => by unfold stA; omega) (fun _ _ h => h.elim))
    rintro v rfl
    rw [nIinc]
    refine ih m3 T3 (by rw [t3.nf id, t2.nf id]; exact z7) (fun u hu => ?_) (fun u hu => ?_)
    · rw [t3.i (by omega), a3]
      by_cases e : u = t
      · subst e; rw [up_s]; rfl
      · rw [up_n e]; exact y3 u (by omega)
    · rw [a4]
      by_cases e : u = t
      · subst e; rw [up_s]; rfl
      · rw [up_n e, t2.i (by omega)]; exact y4 u (by omega)
end CSET
