/-! The class Sets: what is told. -/
def setK (T : Nat) (tb pb : Nat → Nat) (x : Int32) : Nat → Prop := if x = 0 then mnS T pb tb else mnS T tb pb
noncomputable def lstT (C : Nat → Prop) (P : Nat) (y : Int32) : Int32 := cif (pIx (cct C (2 ^ P)) y) (nI (kth C (2 ^ P) y.toNatClampNeg)) (-1)
def mkd (P r : Nat) (mk : Nat → Nat) : Prop := ∃ p, p < P ∧ r.testBit p = true ∧ 0 < mk p
def allM (P T : Nat) (tb pb mk : Nat → Nat) : Prop := ∀ s, s < 2 ^ P → mnS T pb tb s → mkd P (gtN T tb pb s) mk
theorem dfB_self {r x : Nat} (h : r < 1024) : dfB r x = r ↔ x &&& r = 0 := by
  rw [and_zero]
  constructor
  · intro e i q
    have h1 : (dfB r x).testBit i = true := by rw [e]; exact q.2
    exact ((dfB_tb h).mp h1).2 q.1
  · intro q
    refine tb_ext fun i => ?_
    rw [dfB_tb h]
    exact ⟨fun z => z.1, fun z => ⟨z, fun w => q i ⟨w, z⟩⟩⟩
theorem dfB_and {r x : Nat} (h : r < 1024) : dfB r (x &&& r) = dfB r x := by
  refine tb_ext fun i => ?_
  rw [dfB_tb h, dfB_tb h, Nat.testBit_and, Bool.and_eq_true]
  exact ⟨fun z => ⟨z.1, fun w => z.2 ⟨w, z.1⟩⟩, fun z => ⟨z.1, fun w => z.2 w.1⟩⟩
theorem dfB_sb {r x : Nat} (h : r < 1024) : sbN (dfB r x) r := fun i q => ((dfB_tb h).mp q).1
theorem gt_ex {T : Nat} {tb pb : Nat → Nat} : ∀ k s r, pcN r < k → r < 1024 → gtI T tb pb s r → ∃ r', isGT T tb pb s r' := by
  intro k
  induction k with
  | zero => intro s r h; exact absurd h (Nat.not_lt_zero _)
  | succ k ih =>
    intro s r h hr hI
    by_cases q : cloN T tb pb r
    · exact ⟨r, hI.1, q, hI.2⟩
    · have : ∃ t, t < T ∧ ¬ tb t &&& r = 0 ∧ pb t &&& r = 0 := by
        refine Classical.byContradiction fun z => q fun t ht h1 h2 => z ⟨t, ht, h1, h2⟩
      obtain ⟨t, ht, h1, h2⟩ := this
      refine ih s (dfB r (tb t)) ?_ (dfB_lt hr) (gt_step hI hr ht h2)
      have := pc_sub (dfB_sb (x := tb t) hr) hr (fun e => h1 ((dfB_self hr).mp e))
      omega
theorem gtN_is {T : Nat} {tb pb : Nat → Nat} {s : Nat} (hs : s < 1024) : isGT T tb pb s (gtN T tb pb s) :=
  Classical.epsilon_spec (gt_ex (pcN s + 1) s s (Nat.lt_succ_self _) hs ⟨sb_rf, fun x h _ => h⟩)
section CSET2
variable {d c n P T r lr s : Nat} {tk pt : Nat → Nat → Nat} {fi mk : Nat → Nat} {a b tb pb f : Nat → Nat} {m : mMem} {Q : Option Value → mMem → Prop}
theorem setC_k (hC : setC m c P T tb pb) (hP : P ≤ 10) (x : Int32) : (if x = 0 then iF m c 5 else iF m c 6) = nI (cct (setK T tb pb x) (2 ^ P)) ∧ cct (setK T tb pb x) (2 ^ P) ≤ 252 := by
  obtain ⟨hO, h7, h3, h4, h5, h6, i1, i2⟩ := hC
  have hp2 := p2_10 hP
  unfold setK
  by_cases q : x = 0
  · rw [if_pos q, if_pos q]
    exact ⟨h5, Nat.le_trans (cct_mono hp2) mn_252⟩
  · rw [if_neg q, if_neg q]
    exact ⟨h6, Nat.le_trans (cct_mono hp2) mn_252⟩
theorem ev_setCount {x : Int32} (hd : 1 ≤ d) (hT : mWT m) (hC : setC m c P T tb pb) (hP : P ≤ 10) (hQ : Q (some (.int (nI (cct (setK T tb pb x) (2 ^ P))))) m) : mEv d 106 [.ref c, .int x] m Q := by
  have e := (setC_k hC hP x).1
  refine mEv.at (by omega) G106 (Nat.le_of_ble_eq_true rfl) ?_
  refine bk106_0 hT hC.1 ⟨fun c => ?_, fun c => ?_⟩
  · rw [if_neg c] at e; rw [e]; exact hQ
  · rw [if_pos (Classical.not_not.mp c)] at e; rw [e]; exact hQ
theorem ev_setTell {x y : Int32} (hd : 2 ≤ d) (hT : mWT m) (hC : setC m c P T tb pb) (hP : P ≤ 10) (hQ : Q (some (.int (lstT (setK T tb pb x) P y))) m) : mEv d 107 [.ref c, .int x, .int y] m Q := by
  obtain ⟨e, hle⟩ := setC_k hC hP x
  obtain ⟨hO, h7, h3, h4, h5, h6, i1, i2⟩ := id hC
  unfold lstT at hQ
  refine mEv.at (by omega) G107 (Nat.le_of_ble_eq_true rfl) ?_
  refine bk107_0 hT hO ?_
  have rd : ¬ y < 0 → mEv (d - 1) 106 [.ref c, .int x] m (fun r m' => mEs (d - 1) 107 c g107 (10, [some (.ref c), some (.int x), some (.int y)], r.toList ++ [.int y], m') Q) := by
    intro hy
    refine ev_setCount (by omega) hT hC hP ?_
    refine bk107_10 hT hO ?_
    rcases pk_ix y (n := cct (setK T tb pb x) (2 ^ P)) (by omega) with h | h | ⟨j, hj, rfl⟩
    · exact absurd h hy
    · rw [cif_f] at hQ
      · exact ⟨fun c => absurd h (Int32.not_le.mpr c), fun _ => hQ⟩
      · rintro ⟨j, h1, rfl⟩; rw [nIle (by omega) (by omega)] at h; omega
    · rw [cif_t ⟨j, hj, rfl⟩, nI_clamp (by omega)] at hQ
      obtain ⟨k1, k2, k3⟩ := kth_ok hj
      rw [nI_clamp (by omega)]
      refine ⟨fun _ => ⟨fun cx => ⟨(nIin_iff (by omega)).mpr (by omega), ?_⟩, fun cx => ⟨(nIin_iff (by omega)).mpr (by omega), ?_⟩⟩, fun c => absurd ((nI_ltI (by omega) (by omega)).mpr hj) c⟩
      · unfold setK at k2 k3 k1 hQ
        rw [if_neg cx] at k1 k2 k3 hQ
        have := i2 _ k1 k2
        rw [k3] at this
        rw [this]; exact hQ
      · have cx' := Classical.not_not.mp cx
        unfold setK at k2 k3 k1 hQ
        rw [if_pos cx'] at k1 k2 k3 hQ
        have := i1 _ k1 k2
        rw [k3] at this
        rw [this]; exact hQ
  refine ⟨fun c => ?_, rd⟩
  rw [cif_f] at hQ
  · exact hQ
  · rintro ⟨j, h1, rfl⟩; exact nI_nlt0 (by omega) c
theorem ev_gTrap (hd : 1 ≤ d) (hT : mWT m) (hC : setC m c P T tb pb) (hk : T ≤ 10) (htb : ∀ t, tb t < 1024) (hpb : ∀ t, pb t < 1024) (hs : s < 1024) (hQ : Q (some (.int (nI (gtN T tb pb s)))) m) : mEv d 109 [.ref c, .int (nI s)] m Q := by
  obtain ⟨hO, h7, h3, h4, h5, h6, i1, i2⟩ := id hC
  refine mEv.at (by omega) G109 (Nat.le_of_ble_eq_true rfl) ?_
  refine bk109_0 hT hO ?_
  refine upto (e := 11) (X := fun j => ∀ (r0 : Nat) (x4 : Option Value), r0 < 1024 → gtI T tb pb s r0 → (cloN T tb pb r0 ∨ pcN r0 + j ≤ 10) → mEs (d - 1) 109 c g109 (4, [some (.ref c), some (.int (nI s)), some (.int (nI r0)), some (.int (nI j)), x4], [], m) Q) ?_ ?_ 0 (Nat.zero_le _) s _ hs ⟨sb_rf, fun x h _ => h⟩ (Or.inr (by have := pc_10 hs; omega))
  · intro r0 x4 hr hI hc
    refine bk109_4 hT hO ⟨fun _ => ?_, fun c => absurd (by decide) c⟩
    rw [gtN_eq ⟨hI.1, hc.resolve_right (by omega), hI.2⟩] at hQ
    exact hQ
  · intro j hj ih r0 x4 hr0 hI0 hc0
    refine bk109_4 hT hO ?_
    rw [l10, nI_ltI (by omega) (by omega)]
    refine ⟨fun c => by omega, fun _ => ?_⟩
    refine upto (e := T) (X := fun t => ∀ r, r < 1024 → gtI T tb pb s r → sbN r r0 → (r = r0 → ∀ u, u < t → ¬ tb u &&& r = 0 → ¬ pb u &&& r = 0) → (cloN T tb pb r0 → r = r0) → mEs (d - 1) 109 c g109 (13, [some (.ref c), some (.int (nI s)), some (.int (nI r)), some (.int (nI j)), some (.int (nI t))], [], m) Q) ?_ ?_ 0 (Nat.zero_le _) r0 hr0 hI0 sb_rf (fun _ u hu => absurd hu (Nat.not_lt_zero _)) (fun _ => rfl)
    · intro r hr hI hsb hcl hst
      refine bk109_13 hT hO ?_
      rw [h7, nIle (by omega) (by omega), nIinc]
      refine ⟨fun _ => ?_, fun c => absurd (Nat.le_refl _) c⟩
      rintro v rfl
      refine ih r _ hr hI ?_
      by_cases e : r = r0
      · exact Or.inl (hcl e)
      · have := hc0.resolve_left (fun z => e (hst z))
        have := pc_sub hsb hr0 e
        exact Or.inr (by omega)
    · intro t ht ih2 r hr hI hsb hcl hst
      have a1 : pb t &&& r < 1024 := and_lt10 (hpb t)
      refine bk109_13 hT hO ?_
      rw [h7, nIle (by omega) (by omega), nI_clamp (by omega), h4 t ht, h3 t ht, and_n, nIeq0 (by omega), not_n hr, nIinc, nIinc]
      refine ⟨fun c => by omega, fun _ => ⟨(nIin_iff (by omega)).mpr (by omega), fun c1 => ?_, fun c1 => ⟨(nIin_iff (by omega)).mpr (by omega), ?_⟩⟩⟩
      · rintro v rfl
        refine ih2 r hr hI hsb (fun e u hu => ?_) hst
        by_cases eu : u = t
        · subst eu; exact fun _ => c1
        · exact hcl e u (by omega)
      · have c1' := Classical.not_not.mp c1
        rintro v rfl v2 rfl
        refine ih2 (dfB r (tb t)) (dfB_lt hr) (gt_step hI hr ht c1') (sb_tr (dfB_sb hr) hsb) (fun e u hu => ?_) (fun z => ?_)
        · have er : r = r0 := sb_an hsb (by rw [← e]; exact dfB_sb hr)
          have e' : dfB r (tb t) = r := by rw [e, er]
          rw [e']
          by_cases eu : u = t
          · subst eu; exact fun h => absurd ((dfB_self hr).mp e') h
          · exact hcl er u (by omega)
        · have er := hst z
          rw [er] at c1' hr ⊢
          refine (dfB_self hr).mpr (Classical.byContradiction fun w => z t ht w c1')
theorem ev_isMarked (hd : 1 ≤ d) (hT : mWT m) (hr : r < 1024) (hA : m.1 lr = some (.inl (.int, n)) ∧ lr ≠ 0) (hl : 10 ≤ n) (hv : ∀ p, p < 10 → m.2.2.1 lr p = nI (mk p)) (hm : ∀ p, mk p ≤ 99) (hQ : Q (some (.int (bz (mkd 10 r mk)))) m) : mEv d 119 [.int (nI r), .ref lr] m Q := by
  refine mEv.at (by omega) G119 (Nat.le_of_ble_eq_true rfl) ?_
  refine bk119_0 hT hA ?_
  refine upto (e := 10) (X := fun p => (∀ q, q < p → ¬ (r.testBit q = true ∧ 0 < mk q)) → mEs (d - 1) 119 _ g119 (2, [some (.int (nI r)), some (.ref lr), some (.int (nI p))], [], m) Q) ?_ ?_ 0 (Nat.zero_le _) (fun q hq => absurd hq (Nat.not_lt_zero _))
  · intro hq
    refine bk119_2 hT hA ⟨fun _ => ?_, fun c => absurd (by decide) c⟩
    rw [bz_f (fun ⟨p, h1, h2⟩ => hq p h1 h2)] at hQ
    exact hQ
  · intro p hp ih hq
    have a1 := hm p
    refine bk119_2 hT hA ?_
    rw [l10, nIle (by omega) (by omega), bit_n (by omega) (by omega), bz_1, nI_clamp (by omega), hv p hp, nIle0 (by omega), nIinc]
    have nx : ¬ (r.testBit p = true ∧ 0 < mk p) → mEs (d - 1) 119 (mBase [.int (nI r), .ref lr]) g119 (2, [some (.int (nI r)), some (.ref lr), some (.int (nI (p + 1)))], [], m) Q := by
      intro h
      refine ih (fun q hq' => ?_)
      by_cases e : q = p
      · subst e; exact h
      · exact hq q (by omega)
    refine ⟨fun c => by omega, fun _ => ⟨fun c1 => ?_, fun c1 => ⟨(nIin_iff (by omega)).mpr (by omega), fun c2 => ?_, fun c2 => ?_⟩⟩⟩
    · rintro v rfl
      exact nx (fun z => c1 z.1)
    · rintro v rfl
      exact nx (fun z => by omega)
    · rw [bz_t ⟨p, hp, Classical.not_not.mp c1, by omega⟩] at hQ; exact hQ
theorem mkd_P (hP : P ≤ 10) (hr : r < 2 ^ P) : mkd 10 r mk ↔ mkd P r mk := by
  constructor
  · rintro ⟨p, h1, h2, h3⟩
    refine ⟨p, Nat.lt_of_not_le fun z => ?_, h2, h3⟩
    rw [Nat.testBit_lt_two_pow (Nat.lt_of_lt_of_le hr (Nat.pow_le_pow_right (by decide) z))] at h2
    cases h2
  · rintro ⟨p, h1, h2⟩
    exact ⟨p, by omega, h2⟩
theorem ev_allMarked (hd : 2 ≤ d) (hT : mWT m) (hC : setC m c P T tb pb) (hP : P ≤ 10) (hk : T ≤ 10) (htb : ∀ t, tb t < 1024) (hpb : ∀ t, pb t < 1024) (hA : m.1 lr = some (.inl (.int, n)) ∧ lr ≠ 0) (hl : 10 ≤ n) (hv : ∀ p, p < 10 → m.2.2.1 lr p = nI (mk p)) (hm : ∀ p, mk p ≤ 99) (hQ : Q (some (.int (bz (allM P T tb pb mk)))) m) : mEv d 118 [.ref c, .ref lr] m Q := by
  obtain ⟨hO, h7, h3, h4, h5, h6, i1, i2⟩ := id hC
  have hp2 := p2_10 hP
  have h252 : cct (mnS T pb tb) (2 ^ P) ≤ 252 := Nat.le_trans (cct_mono hp2) mn_252
  refine mEv.at (by omega) G118 (Nat.le_of_ble_eq_true rfl) ?_
  refine bk118_0 hT hO hA ?_
  refine upto (e := cct (mnS T pb tb) (2 ^ P)) (X := fun k => (∀ i, i < 2 ^ P → mnS T pb tb i → cct (mnS T pb tb) i < k → mkd P (gtN T tb pb i) mk) → mEs (d - 1) 118 c g118 (2, [some (.ref c), some (.ref lr), some (.int (nI k))], [], m) Q) ?_ ?_ 0 (Nat.zero_le _) (fun i _ _ h => absurd h (Nat.not_lt_zero _))
  · intro hq
    refine bk118_2 hT hO hA ?_
    rw [h5, nIle (by omega) (by omega)]
    rw [bz_t (C := allM P T tb pb mk) (fun i h1 h2 => hq i h1 h2 ?_)] at hQ
    · exact ⟨fun _ => hQ, fun c => absurd (Nat.le_refl _) c⟩
    · have := cct_mono (C := mnS T pb tb) (show i + 1 ≤ 2 ^ P from h1)
      rw [cct_t h2] at this
      omega
  · intro k hk' ih hq
    obtain ⟨k1, k2, k3⟩ := kth_ok hk'
    have e1 := i1 _ k1 k2
    rw [k3] at e1
    generalize kth (mnS T pb tb) (2 ^ P) k = i at *
    have hgt := gtN_is (T := T) (tb := tb) (pb := pb) (s := i) (by omega)
    have hle := sb_le hgt.1
    refine bk118_2 hT hO hA ?_
    rw [h5, nIle (by omega) (by omega), nI_clamp (by omega), e1]
    refine ⟨fun c => by omega, fun _ => ⟨(nIin_iff (by omega)).mpr (by omega), ?_⟩⟩
    refine ev_gTrap (by omega) hT hC hk htb hpb (by omega) ?_
    refine bk118_20 hT hO hA ?_
    refine ev_isMarked (by omega) hT (by omega) hA hl hv hm ?_
    rw [bz_cg (mkd_P hP (by omega))]
    refine bk118_24 hT hO hA ?_
    rw [bz_n0, nIinc]
    refine ⟨fun c1 => ?_, fun c1 => ?_⟩
    · rintro v rfl
      refine ih (fun j h1 h2 h3 => ?_)
      by_cases e : cct (mnS T pb tb) j = k
      · have : j = i := cct_inj h2 k2 (by rw [e, k3])
        subst this; exact c1
      · exact hq j h1 h2 (by omega)
    · rw [bz_f (C := allM P T tb pb mk) (fun z => c1 (z i k1 k2))] at hQ; exact hQ
end CSET2
