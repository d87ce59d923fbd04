/-! The class Flows: order, build, what is told. -/
/-- the sets that rows use -/
def uU (W : Nat) (S : fwS) (s : Nat) : Prop := ∃ r, r < S.1 ∧ uB W (S.2 r) = s
/-- the row of the i-th least flow -/
noncomputable def fIx (W : Nat) (S : fwS) (i : Nat) : Nat := lsN (fun r => uB W (S.2 r) = kth (uU W S) 1024 i) S.1
theorem rank_inc {U : Nat → Prop} {g : Nat → Nat} {N : Nat} (h1 : ∀ s, U s ↔ ∃ j, j < N ∧ g j = s) (h2 : ∀ i j, i < j → j < N → g i < g j) : ∀ i, i < N → cct U (g i) = i := by
  have z : ∀ a b, a ≤ b → (∀ s, a ≤ s → s < b → ¬ U s) → cct U b = cct U a := by
    intro a b hab h
    obtain ⟨k, rfl⟩ : ∃ k, b = a + k := ⟨b - a, by omega⟩
    induction k with
    | zero => rfl
    | succ k ih => rw [show a + (k + 1) = a + k + 1 from rfl, cct_f (h (a + k) (by omega) (by omega))]; exact ih (by omega) (fun s h3 h4 => h s h3 (by omega))
  intro i
  induction i with
  | zero =>
    intro h0
    rw [z 0 (g 0) (Nat.zero_le _) (fun s _ hs q => ?_)]
    · rfl
    · obtain ⟨j, hj, e⟩ := (h1 s).mp q
      rcases Nat.eq_zero_or_pos j with e2 | e2
      · rw [e2] at e; omega
      · have := h2 0 j e2 hj; omega
  | succ i ih =>
    intro hi
    have hlt := h2 i (i + 1) (Nat.lt_succ_self _) hi
    rw [z (g i + 1) (g (i + 1)) (by omega) (fun s h3 h4 q => ?_), cct_t ((h1 _).mpr ⟨i, by omega, rfl⟩), ih (by omega)]
    obtain ⟨j, hj, e⟩ := (h1 s).mp q
    rcases Nat.lt_trichotomy j i with e2 | e2 | e2
    · have := h2 j i e2 (by omega); omega
    · rw [e2] at e; omega
    · rcases Nat.lt_trichotomy j (i + 1) with e3 | e3 | e3
      · omega
      · rw [e3] at e; omega
      · have := h2 (i + 1) j e3 hj; omega
/-- an order of the rows, rising by what they use -/
def ordO (W : Nat) (S : fwS) (o : Nat → Nat) : Prop := (∀ i, i < S.1 → o i < S.1) ∧ ∀ i j, i < j → j < S.1 → uB W (S.2 (o i)) < uB W (S.2 (o j))
theorem ord_fIx {W : Nat} {D : Nat → Nat → Int} {S : fwS} {o : Nat → Nat} (hW : W ≤ 10) (hS : fOk W D S) (ho : ordO W S o) {i : Nat} (hi : i < S.1) : fIx W S i = o i := by
  have hon : ∀ r, r < S.1 → ∃ j, j < S.1 ∧ o j = r := fun r hr => by
    refine fb_onto (fun i hi => ho.1 i hi) (fun i j h1 h2 e => ?_) hr
    have := ho.2 i j h1 h2
    rw [e] at this
    omega
  have hr := rank_inc (U := uU W S) (g := fun j => uB W (S.2 (o j))) (N := S.1) (fun s => ⟨fun ⟨r, h1, h2⟩ => by obtain ⟨j, h3, h4⟩ := hon r h1; exact ⟨j, h3, by rw [h4]; exact h2⟩, fun ⟨j, h1, h2⟩ => ⟨o j, ho.1 j h1, h2⟩⟩) ho.2 i hi
  have hk : kth (uU W S) 1024 i = uB W (S.2 (o i)) := by
    have := kth_of (C := uU W S) (N := 1024) (i := uB W (S.2 (o i))) (uB_lt hW) ⟨o i, ho.1 i hi, rfl⟩
    rw [hr] at this
    exact this
  unfold fIx
  rw [hk]
  refine lsN_eq (Nat.le_of_lt (ho.1 i hi)) (fun _ => rfl) (fun j hj e => ?_)
  have := hS.2.2 j (o i) (by have := ho.1 i hi; omega) (ho.1 i hi) e
  omega
section CFW3
variable {d c n P T W E ra rb r e : Nat} {pl : Prop} {tk pt : Nat → Nat → Nat} {fi row mk : Nat → Nat} {S : fwS} {m : mMem} {Q : Option Value → mMem → Prop}
theorem ev_sortRows (hd : 1 ≤ d) (hT : mWT m) (hO : m.1 c = some (.inr 4) ∧ c ≠ 0) (hW : W ≤ 10) (h1 : iF m c 1 = nI S.1) (hS : fOk W (dF pl tk pt) S) (hu : ∀ j, j < S.1 → m.2.2.1 (64 * c + 4) j = nI (uB W (S.2 j)))
    (hQ : ∀ m' o, mTo (fun k => k = 64 * c + 6) (fun _ _ => False) m m' → ordO W S o → (∀ i, i < S.1 → m'.2.2.1 (64 * c + 6) i = nI (o i)) → Q none m') : mEv d 91 [.ref c] m Q := by
  have h300 := hS.1
  have hinj := hS.2.2
  have ul : ∀ q, uB W (S.2 q) < 1024 := fun q => uB_lt hW
  refine mEv.at (by omega) G91 (Nat.le_of_ble_eq_true rfl) ?_
  refine bk91_0 hT hO ?_
  refine upto (e := S.1) (X := fun r => ∀ (o : Nat → Nat) (x2 : Option Value) (m' : mMem), mTo (fun k => k = 64 * c + 6) (fun _ _ => False) m m' → (∀ i, i < r → o i < r) → (∀ i j, i < j → j < r → uB W (S.2 (o i)) < uB W (S.2 (o j))) → (∀ i, i < r → m'.2.2.1 (64 * c + 6) i = nI (o i)) → mEs (d - 1) 91 c g91 (2, [some (.ref c), some (.int (nI r)), x2], [], m') Q) ?_ ?_ 0 (Nat.zero_le _) (fun _ => 0) _ m (mTo.rf hT) (fun i hi => absurd hi (Nat.not_lt_zero _)) (fun i j _ hj => absurd hj (Nat.not_lt_zero _)) (fun i hi => absurd hi (Nat.not_lt_zero _))
  · intro o x2 m' T' o1 o2 o3
    refine bk91_2 T'.wt (T'.ob hO) ?_
    rw [T'.nf id, h1, nIle (by omega) (by omega)]
    exact ⟨fun _ => hQ m' o T' ⟨o1, o2⟩ o3, fun c => absurd (Nat.le_refl _) c⟩
  · intro r hr ih o x2 m' T' o1 o2 o3
    refine bk91_2 T'.wt (T'.ob hO) ?_
    rw [T'.nf id, h1, nIle (by omega) (by omega)]
    refine ⟨fun c => by omega, fun _ => ?_⟩
    -- the slot goes down; those from it on stand one further
    have go : ∀ s, s ≤ r → ∀ (m' : mMem), mTo (fun k => k = 64 * c + 6) (fun _ _ => False) m m' → (∀ i, i < s → m'.2.2.1 (64 * c + 6) i = nI (o i)) → (∀ i, s < i → i ≤ r → m'.2.2.1 (64 * c + 6) i = nI (o (i - 1))) → (∀ i, s ≤ i → i < r → uB W (S.2 r) < uB W (S.2 (o i))) → mEs (d - 1) 91 c g91 (12, [some (.ref c), some (.int (nI r)), some (.int (nI s))], [], m') Q := by
      intro s
      induction s with
      | zero =>
        intro _ m' T' p1 p2 p3
        refine bk91_12 T'.wt (T'.ob hO) ⟨fun _ => ⟨by decide, fun m2 em2 => ?_⟩, fun c => absurd (by decide) c⟩
        rw [show (nI 0).toNatClampNeg = 0 from rfl] at em2
        obtain ⟨t2, b6⟩ := sI1 em2 T'.wt
        rintro v rfl
        rw [nIinc]
        refine ih (fun i => if i = 0 then r else o (i - 1)) _ m2 (T'.tr t2) (fun i hi => ?_) (fun i j hij hj => ?_) (fun i hi => ?_)
        · split
          · omega
          · have := o1 (i - 1) (by omega); omega
        · rw [if_neg (show j ≠ 0 by omega)]
          split
          · exact p3 (j - 1) (Nat.zero_le _) (by omega)
          · exact o2 (i - 1) (j - 1) (by omega) (by omega)
        · rw [b6]
          by_cases q : i = 0
          · rw [if_pos q, q]; exact up_s
          · rw [if_neg q, up_n q]; exact p2 i (by omega) (by omega)
      | succ s ihs =>
        intro hs m' T' p1 p2 p3
        have ho := o1 s (by omega)
        have u1 := ul r
        have u2 := ul (o s)
        have e1 : nI (s + 1) - 1 = nI s := by rw [nIdec (by omega)]; rfl
        have u64 : m'.2.2.1 (64 * c + 4) = m.2.2.1 (64 * c + 4) := T'.i (by omega)
        refine bk91_12 T'.wt (T'.ob hO) ?_
        rw [e1, nIle0 (by omega), nI_clamp (by omega), nI_clamp (by omega), p1 s (Nat.lt_succ_self _), nI_clamp (by omega), nI_clamp (by omega), u64, hu _ (by omega), hu r hr, nIle (by omega) (by omega), nIinc]
        refine ⟨fun c => by omega, fun _ => ⟨(nIin_iff (by omega)).mpr (by omega), (nIin_iff (by omega)).mpr (by omega), (nIin_iff (by omega)).mpr (by omega), fun cu => ⟨(nIin_iff (by omega)).mpr (by omega), fun m2 em2 => ?_⟩, fun cu => ⟨(nIin_iff (by omega)).mpr (by omega), (nIin_iff (by omega)).mpr (by omega), fun m2 em2 => ?_⟩⟩⟩
        · obtain ⟨t2, b6⟩ := sI1 em2 T'.wt
          rintro v rfl
          have hne : uB W (S.2 (o s)) ≠ uB W (S.2 r) := fun z => by have := hinj (o s) r (by omega) hr z; omega
          refine ih (fun i => if i = s + 1 then r else if i < s + 1 then o i else o (i - 1)) _ m2 (T'.tr t2) (fun i hi => ?_) (fun i j hij hj => ?_) (fun i hi => ?_)
          · split
            · omega
            · split
              · have := o1 i (by omega); omega
              · have := o1 (i - 1) (by omega); omega
          · have below : ∀ i, i < s + 1 → uB W (S.2 (o i)) < uB W (S.2 r) := by
              intro i hi
              by_cases q : i = s
              · subst q; omega
              · have := o2 i s (by omega) (by omega); omega
            by_cases qj : j = s + 1
            · rw [if_pos qj, if_neg (show i ≠ s + 1 by omega), if_pos (by omega)]
              exact below i (by omega)
            · rw [if_neg qj]
              by_cases qj2 : j < s + 1
              · rw [if_pos qj2, if_neg (show i ≠ s + 1 by omega), if_pos (by omega)]
                exact o2 i j hij (by omega)
              · rw [if_neg qj2]
                by_cases qi : i = s + 1
                · rw [if_pos qi]; exact p3 (j - 1) (by omega) (by omega)
                · rw [if_neg qi]
                  by_cases qi2 : i < s + 1
                  · rw [if_pos qi2]; exact o2 i (j - 1) (by omega) (by omega)
                  · rw [if_neg qi2]; exact o2 (i - 1) (j - 1) (by omega) (by omega)
          · rw [b6]
            by_cases q : i = s + 1
            · rw [if_pos q, q, up_s]
            · rw [if_neg q, up_n q]
              by_cases q2 : i < s + 1
              · rw [if_pos q2]; exact p1 i q2
              · rw [if_neg q2]; exact p2 i (by omega) (by omega)
        · obtain ⟨t2, b6⟩ := sI1 em2 T'.wt
          rintro v rfl
          rw [show nI (s + 1) + (-1) = nI s by rw [nIdec' (by omega)]; rfl]
          refine ihs (by omega) m2 (T'.tr t2) (fun i hi => ?_) (fun i hi hi2 => ?_) (fun i hi hi2 => ?_)
          · rw [b6, up_n (by omega)]; exact p1 i (by omega)
          · rw [b6]
            by_cases q : i = s + 1
            · subst q; rw [up_s]; rfl
            · rw [up_n q]; exact p2 i (by omega) hi2
          · by_cases q : i = s
            · subst q; omega
            · exact p3 i (by omega) hi2
    exact go r (Nat.le_refl _) m' T' o3 (fun i h2 h3 => by omega) (fun i h2 h3 => by omega)
/-- flows as they lie in the class -/
def flC (m : mMem) (c W E : Nat) (pl : Prop) (D : Nat → Nat → Int) : Prop := ∃ ra rb, fcB m c W E pl ra rb ∧ match fZ W E D E with
  | none => iF m c 2 = 1
  | some S => iF m c 2 = 0 ∧ iF m c 1 = nI S.1 ∧ fcR m ra W S ∧ ∃ o, ordO W S o ∧ ∀ i, i < S.1 → m.2.2.1 (64 * c + 6) i = nI (o i)
/-- an object of which nothing is known but that it is whole -/
def fl0 (m : mMem) (c : Nat) (pl : Prop) (ra rb : Nat) : Prop := (m.1 c = some (.inr 4) ∧ c ≠ 0) ∧ m.2.1 c 4 = .ref ra ∧ m.2.1 c 5 = .ref rb ∧ (m.1 ra = some (.inl (.int, 3000)) ∧ ra ≠ 0) ∧ (m.1 rb = some (.inl (.int, 3000)) ∧ rb ≠ 0) ∧ ((ra = 64 * c + 1 ∧ rb = 64 * c + 2) ∨ (ra = 64 * c + 2 ∧ rb = 64 * c + 1)) ∧ iF m c 3 = bz pl
def fbF (c k f : Nat) : Prop := k = c ∧ (f = 1 ∨ f = 2 ∨ f = 4 ∨ f = 5 ∨ f = 11 ∨ f = 12)
noncomputable def wP (pl : Prop) (P T : Nat) : Nat := cif pl P T
noncomputable def wE (pl : Prop) (P T : Nat) : Nat := cif pl T P
theorem w10 (hk : okNet P T tk pt fi) : wP pl P T ≤ 10 ∧ wE pl P T ≤ 10 := by
  unfold wP wE
  by_cases q : pl
  · rw [cif_t q, cif_t q]; exact ⟨hk.1, hk.2.1⟩
  · rw [cif_f q, cif_f q]; exact ⟨hk.2.1, hk.1⟩
theorem dF_E (hk : okNet P T tk pt fi) : ∀ k e, wE pl P T ≤ e → dF pl tk pt k e = 0 := by
  intro k e h
  unfold wE at h
  unfold dF
  have hz := hk.2.2.2.2.2.1
  by_cases q : pl
  · rw [cif_t q] at h ⊢
    have := hz e k (Or.inr h)
    rw [this.1, this.2]; rfl
  · rw [cif_f q] at h ⊢
    have := hz k e (Or.inl h)
    rw [this.1, this.2]; rfl
theorem uB_unit {k : Nat} (hk : k < W) : uB W ((f00 W).2 k) = 2 ^ k := by
  refine tb_ext fun i => ?_
  unfold uB
  rw [bs_tb, Nat.testBit_two_pow, decide_eq_true_eq]
  show i < W ∧ (if i = k then 1 else 0) ≠ 0 ↔ k = i
  constructor
  · rintro ⟨h1, h2⟩
    by_cases q : i = k
    · exact q.symm
    · rw [if_neg q] at h2; exact absurd rfl h2
  · intro q
    rw [if_pos q.symm]
    exact ⟨by omega, by decide⟩
theorem ev_flBuild (hd : 5 ≤ d) (hT : mWT m) (hB : fl0 m c pl ra rb) (hN : cNet m n P T tk pt fi) (hk : okNet P T tk pt fi) (hnc : n ≠ c)
    (hQ : ∀ m', mTo (fsA c) (fbF c) m m' → flC m' c (wP pl P T) (wE pl P T) pl (dF pl tk pt) → Q none m') : mEv d 81 [.ref c, .ref n] m Q := by
  obtain ⟨a1, a2, a3, a4, a5, a6, a7⟩ := id hB
  obtain ⟨hW, hE⟩ := w10 (pl := pl) hk
  have hE2 := dF_E (pl := pl) hk
  have hD9 := dF_9 hk pl
  have fok := fZ_ok (W := wP pl P T) (E := wE pl P T) (D := dF pl tk pt) hW hD9 hE2
  -- behind the widths
  have main : ∀ (m7 : mMem), mTo (fun _ => False) (fbF c) m m7 → fcB m7 c (wP pl P T) (wE pl P T) pl ra rb → iF m7 c 2 = 0 → iF m7 c 1 = nI (wP pl P T) → mEv (d - 1) 11 [.ref ra, .int 0] m7 (fun r m' => mEs (d - 1) 81 c g81 (65, [some (.ref c), some (.ref n), none], r.toList ++ [], m') Q) := by
    intro m7 T7 B7 z2 z1
    generalize wP pl P T = W at *
    generalize wE pl P T = E at *
    refine ev_fill (len := 3000) (by omega) T7.wt B7.2.2.2.1 (by decide) ?_
    obtain ⟨t8, b8⟩ := sI1 (m' := mSetI m7 ra (filled (m7.2.2.1 ra) 0 3000 0)) rfl T7.wt
    generalize mSetI m7 ra (filled (m7.2.2.1 ra) 0 3000 0) = m8 at *
    have T8 : mTo (fsA c) (fbF c) m m8 := (T7.mono (fun _ h => h.elim) (fun _ _ h => h)).tr (t8.mono (fun k h => by unfold fsA; omega) (fun _ _ h => h.elim))
    have B8 := B7.to t8 id id id id id
    refine bk81_65 T8.wt (T8.ob a1) (T8.ob hN.1) ?_
    refine upto (e := W) (X := fun k => ∀ m', mTo (fun k => k = ra ∨ k = 64 * c + 4) (fun _ _ => False) m8 m' → (∀ r, r < k → ∀ j, j < 10 → m'.2.2.1 ra (r * 10 + j) = nI (if j = r then 1 else 0)) → (∀ r, k ≤ r → r < 10 → ∀ j, j < 10 → m'.2.2.1 ra (r * 10 + j) = 0) → (∀ r, r < k → m'.2.2.1 (64 * c + 4) r = nI (2 ^ r)) → mEs (d - 1) 81 c g81 (67, [some (.ref c), some (.ref n), some (.int (nI k))], [], m') Q) ?_ ?_ 0 (Nat.zero_le _) m8 (mTo.rf T8.wt) (fun r hr => absurd hr (Nat.not_lt_zero _)) (fun r _ hr j hj => by rw [b8, filled_in (Nat.zero_le _) (by omega)]) (fun r hr => absurd hr (Nat.not_lt_zero _))
    · intro m9 t9 g1 g2 g3
      have T9 : mTo (fsA c) (fbF c) m m9 := T8.tr (t9.mono (fun k h => by unfold fsA; omega) (fun _ _ h => h.elim))
      have B9 := B8.to t9 id id id id id
      refine bk81_67 T9.wt (T9.ob a1) (T9.ob hN.1) ?_
      rw [B9.2.2.2.2.2.2.2.1, nIle (by omega) (by omega)]
      refine ⟨fun _ => ?_, fun c => absurd (Nat.le_refl _) c⟩
      have M9 : fcM m9 c W ra (fZ W E (dF pl tk pt) 0) := by
        refine ⟨by rw [t9.nf id, t8.nf id]; exact z2, by rw [t9.nf id, t8.nf id]; exact z1, fun r hr k hk' => ?_, fun j hj => ?_⟩
        · have hr' : r < W := hr
          exact g1 r hr' k (by omega)
        · have hj' : j < W := hj
          rw [g3 j hj', uB_unit hj']
      -- step by step
      have go : ∀ e, e ≤ E → ∀ (ra rb : Nat) (m' : mMem), mTo (fsA c) (fbF c) m m' → fcB m' c W E pl ra rb → fcM m' c W ra (fZ W E (dF pl tk pt) e) → mEs (d - 1) 81 c g81 (104, [some (.ref c), some (.ref n), some (.int (nI e))], [], m') Q := by
        have fin : ∀ (x2 : Int32) (ra rb : Nat) (m' : mMem), mTo (fsA c) (fbF c) m m' → fcB m' c W E pl ra rb → fcM m' c W ra (fZ W E (dF pl tk pt) E) → (¬ iF m' c 2 = 0 → mEs (d - 1) 81 c g81 (142, [some (.ref c), some (.ref n), some (.int x2)], [], m') Q) ∧ (¬ ¬ iF m' c 2 = 0 → mEv (d - 1) 91 [.ref c] m' (fun r m2 => mEs (d - 1) 81 c g81 (142, [some (.ref c), some (.ref n), some (.int x2)], r.toList ++ [], m2) Q)) := by
          intro x2 ra rb m' T' B' M'
          cases hz : fZ W E (dF pl tk pt) E with
          | none =>
            rw [hz] at M'
            have M2 : iF m' c 2 = 1 := M'
            refine ⟨fun _ => bk81_142 T'.wt (T'.ob a1) (T'.ob hN.1) (hQ m' T' ⟨ra, rb, B', by rw [hz]; exact M2⟩), fun c => ?_⟩
            rw [M2] at c; exact absurd (by decide) c
          | some S =>
            rw [hz] at M'
            obtain ⟨y2, y1, yR, yu⟩ := M'
            refine ⟨fun c => absurd y2 c, fun _ => ?_⟩
            refine ev_sortRows (S := S) (by omega) T'.wt (T'.ob a1) hW y1 (fok E S hz) yu ?_
            intro m2 o t2 o1 o2
            have T2 : mTo (fsA c) (fbF c) m m2 := T'.tr (t2.mono (fun k h => by unfold fsA; omega) (fun _ _ h => h.elim))
            refine bk81_142 T2.wt (T2.ob a1) (T2.ob hN.1) (hQ m2 T2 ⟨ra, rb, B'.to t2 id id id id id, ?_⟩)
            rw [hz]
            refine ⟨by rw [t2.nf id]; exact y2, by rw [t2.nf id]; exact y1, ?_, o, o1, o2⟩
            unfold fcR
            have := B'.2.2.2.2.2.1
            rw [t2.i (by omega)]; exact yR
        refine upto ?_ ?_
        · intro ra rb m' T' B' M'
          refine bk81_104 T'.wt (T'.ob a1) (T'.ob hN.1) ?_
          rw [B'.2.2.2.2.2.2.2.2, nIle (by omega) (by omega)]
          exact ⟨fun _ => fin _ ra rb m' T' B' M', fun c => absurd (Nat.le_refl _) c⟩
        · intro e he ih ra rb m' T' B' M'
          refine bk81_104 T'.wt (T'.ob a1) (T'.ob hN.1) ?_
          rw [B'.2.2.2.2.2.2.2.2, nIle (by omega) (by omega)]
          refine ⟨fun c => by omega, fun _ => ?_⟩
          cases hz : fZ W E (dF pl tk pt) e with
          | none =>
            rw [hz] at M'
            have M2 : iF m' c 2 = 1 := M'
            have hzE := fZ_none (W := W) (E := E) (D := dF pl tk pt) (E - e) e hz
            rw [show e + (E - e) = E by omega] at hzE
            have q := fin (nI e) ra rb m' T' B' (by rw [hzE]; exact M2)
            refine ⟨fun _ => q, fun c => ?_⟩
            rw [M2] at c; exact absurd (by decide) c
          | some S =>
            rw [hz] at M'
            refine ⟨fun c => absurd M'.1 c, fun _ => ?_⟩
            have gN := hN.to T' (by unfold fsA; omega) (by unfold fsA; omega) (by unfold fsA; omega) (by unfold fbF; omega) (by unfold fbF; omega)
            refine ev_settle (S := S) (by omega) T'.wt B' hW hE hE2 gN hk hnc (fok e S hz) M' he ?_
            intro m2 ra' rb' t2 B2 M2
            have T2 : mTo (fsA c) (fbF c) m m2 := T'.tr (t2.mono (fun _ h => h) (fun k f h => by unfold fsF at h; exact ⟨h.1, by omega⟩))
            refine bk81_125 T2.wt (T2.ob a1) (T2.ob hN.1) ?_
            rintro v rfl
            rw [nIinc]
            refine ih ra' rb' m2 T2 B2 ?_
            rw [show fZ W E (dF pl tk pt) (e + 1) = (match fZ W E (dF pl tk pt) e with | none => none | some S => cif (farS W E (dF pl tk pt) S e) none (some (fSt W (dF pl tk pt) S e))) from rfl, hz]
            exact M2
      exact go 0 (Nat.zero_le _) ra rb m9 T9 B9 M9
    · intro k hk' ih m' t' g1 g2 g3
      have T' : mTo (fsA c) (fbF c) m m' := T8.tr (t'.mono (fun k h => by unfold fsA; omega) (fun _ _ h => h.elim))
      have B' := B8.to t' id id id id id
      refine bk81_67 T'.wt (T'.ob a1) (T'.ob hN.1) ?_
      rw [B'.2.2.2.2.2.2.2.1, nIle (by omega) (by omega)]
      refine ⟨fun c => by omega, fun _ => ⟨ra, 3000, B'.2.1, B'.2.2.2.1, ?_⟩⟩
      rw [l10, nI_mul, nI_add, nI_clamp (by omega), nI_clamp (by omega), shl1 (by omega), nIinc]
      refine ⟨(nIin_iff (by omega)).mpr (by omega), fun m2 em2 => ⟨(nIin_iff (by omega)).mpr (by omega), fun m3 em3 => ?_⟩⟩
      obtain ⟨t2, b2⟩ := sI1 em2 T'.wt
      obtain ⟨t3, b3⟩ := sI1 em3 t2.wt
      rintro v rfl
      refine ih m3 ((t'.tr (t2.mono (fun _ h => Or.inl h) (fun _ _ h => h.elim))).tr (t3.mono (fun _ h => Or.inr h) (fun _ _ h => h.elim))) (fun r hr j hj => ?_) (fun r hr hr2 j hj => ?_) (fun r hr => ?_)
      · rw [t3.i (by omega), b2]
        by_cases q : r * 10 + j = k * 10 + k
        · have e1 : r = k := by omega
          have e2 : j = k := by omega
          rw [q, up_s, if_pos (by omega)]; rfl
        · rw [up_n q]
          by_cases q2 : r = k
          · subst q2
            rw [g2 r (Nat.le_refl _) (by omega) j hj, if_neg (by omega)]; rfl
          · exact g1 r (by omega) j hj
      · rw [t3.i (by omega), b2, up_n (by omega)]; exact g2 r (by omega) hr2 j hj
      · rw [b3]
        by_cases q : r = k
        · subst q; rw [up_s]
        · rw [up_n q, t2.i (by omega)]; exact g3 r (by omega)
  refine mEv.at (by omega) G81 (Nat.le_of_ble_eq_true rfl) ?_
  refine bk81_0 hT a1 hN.1 ?_
  intro m1 em1
  obtain ⟨t1, z2⟩ := sF1 em1 hT a1 (by decide)
  have n0 : iF m1 n 0 = nI P := by rw [t1.nf (fun z => hnc z.1)]; exact hN.2.1
  have n1 : iF m1 n 1 = nI T := by rw [t1.nf (fun z => hnc z.1)]; exact hN.2.2.1
  have z3 : iF m1 c 3 = bz pl := by rw [t1.nf (by omega)]; exact a7
  have two : ∀ (w : Nat) (m3 : mMem), m3 = mSetF m1 c 11 (.int (nI w)) → w = wP pl P T → (iF m3 c 3 = bz pl ∧ iF m3 n 0 = nI P ∧ iF m3 n 1 = nI T) ∧ ∀ (x : Nat) (m5 : mMem), m5 = mSetF m3 c 12 (.int (nI x)) → x = wE pl P T → ∀ m7, m7 = mSetF m5 c 1 (.int (iF m5 c 11)) → ∃ (r_9 l_10 : Nat), (m7.2.1 c 4 = .ref r_9) ∧ ((m7.1 r_9 = some (.inl (.int, l_10)) ∧ r_9 ≠ 0) ∧ (mEv (d - 1) 11 [.ref r_9, .int 0] m7 (fun r m' => mEs (d - 1) 81 c g81 (65, [some (.ref c), some (.ref n), none], r.toList ++ [], m') Q))) := by
    intro w m3 em3 hw
    obtain ⟨t3, z11⟩ := sF1 em3 t1.wt (t1.ob a1) (by decide)
    refine ⟨⟨by rw [t3.nf (by omega)]; exact z3, by rw [t3.nf (fun z => hnc z.1)]; exact n0, by rw [t3.nf (fun z => hnc z.1)]; exact n1⟩, fun x m5 em5 hx m7 em7 => ?_⟩
    obtain ⟨t5, z12⟩ := sF1 em5 t3.wt (t3.ob (t1.ob a1)) (by decide)
    rw [t5.nf (by omega), z11] at em7
    obtain ⟨t7, z1⟩ := sF1 em7 t5.wt (t5.ob (t3.ob (t1.ob a1))) (by decide)
    have T7 : mTo (fun _ => False) (fbF c) m m7 := (((t1.mono (fun _ h => h) (fun k f h => ⟨h.1, by omega⟩)).tr (t3.mono (fun _ h => h) (fun k f h => ⟨h.1, by omega⟩))).tr (t5.mono (fun _ h => h) (fun k f h => ⟨h.1, by omega⟩))).tr (t7.mono (fun _ h => h) (fun k f h => ⟨h.1, by omega⟩))
    have f4 : m7.2.1 c 4 = .ref ra := by rw [t7.fl (by omega), t5.fl (by omega), t3.fl (by omega), t1.fl (by omega)]; exact a2
    refine ⟨ra, 3000, f4, T7.ob a4, main m7 T7 ⟨T7.ob a1, f4, by rw [t7.fl (by omega), t5.fl (by omega), t3.fl (by omega), t1.fl (by omega)]; exact a3, T7.ob a4, T7.ob a5, a6, by rw [t7.nf (by omega), t5.nf (by omega), t3.nf (by omega)]; exact z3, by rw [t7.nf (by omega), t5.nf (by omega), z11, hw], by rw [t7.nf (by omega), z12, hx]⟩ (by rw [t7.nf (by omega), t5.nf (by omega), t3.nf (by omega)]; exact z2) (by rw [z1, hw])⟩
  rw [z3, bz_0, n0, n1]
  refine ⟨fun cp m3 em3 => ?_, fun cp m3 em3 => ?_⟩
  · obtain ⟨⟨y3, y0, y1⟩, k2⟩ := two T m3 em3 (by unfold wP; rw [cif_f cp])
    rw [y3, bz_0, y0, y1]
    refine ⟨fun _ m5 em5 m7 em7 => k2 P m5 em5 (by unfold wE; rw [cif_f cp]) m7 em7, fun c => absurd cp c⟩
  · have cp' := Classical.not_not.mp cp
    obtain ⟨⟨y3, y0, y1⟩, k2⟩ := two P m3 em3 (by unfold wP; rw [cif_t cp'])
    rw [y3, bz_0, y0, y1]
    refine ⟨fun c => absurd cp' c, fun _ m5 em5 m7 em7 => k2 T m5 em5 (by unfold wE; rw [cif_t cp']) m7 em7⟩
end CFW3
