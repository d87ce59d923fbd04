/-! The model: siphons and traps. -/
theorem sub_next : ∀ s x y, sbN y s → sbN x s → y < x → y ≤ (x - 1) &&& s := by
  intro s
  induction s using Nat.strongRecOn with
  | ind s ih =>
    intro x y hy hx h
    have s0 : s ≠ 0 := by
      intro e
      have := sb_le hx
      omega
    have tb2 : ∀ n i, (n / 2).testBit i = n.testBit (i + 1) := fun n i => by rw [Nat.testBit_succ]
    have hy' : sbN (y / 2) (s / 2) := fun i q => by rw [tb2] at q ⊢; exact hy _ q
    have hx' : sbN (x / 2) (s / 2) := fun i q => by rw [tb2] at q ⊢; exact hx _ q
    have lo : ∀ n, n.testBit 0 = true ↔ n % 2 = 1 := fun n => by rw [Nat.testBit_zero, decide_eq_true_eq]
    have hyl : y % 2 = 1 → s % 2 = 1 := fun q => (lo s).mp (hy 0 ((lo y).mpr q))
    have hxl : x % 2 = 1 → s % 2 = 1 := fun q => (lo s).mp (hx 0 ((lo x).mpr q))
    have hd : ((x - 1) &&& s) / 2 = (x - 1) / 2 &&& s / 2 := Nat.and_div_two
    have hm : ((x - 1) &&& s) % 2 = if (x - 1) % 2 = 1 ∧ s % 2 = 1 then 1 else 0 := by
      have h1 : ((x - 1) &&& s).testBit 0 = true ↔ (x - 1) % 2 = 1 ∧ s % 2 = 1 := by rw [Nat.testBit_and, Bool.and_eq_true, lo, lo]
      rw [lo] at h1
      split
      · next q => exact h1.mpr q
      · next q => have := mt h1.mp q; omega
    by_cases q : x % 2 = 1
    · have e1 : (x - 1) / 2 = x / 2 := by omega
      have e2 : x / 2 &&& s / 2 = x / 2 := sb_and.mpr hx'
      rw [e1, e2] at hd
      omega
    · have e1 : (x - 1) / 2 = x / 2 - 1 := by omega
      rw [e1] at hd
      have := ih (s / 2) (by omega) (x / 2) (y / 2) hy' hx' (by omega)
      have e3 : (x - 1) % 2 = 1 := by omega
      by_cases q2 : s % 2 = 1
      · rw [if_pos ⟨e3, q2⟩] at hm
        omega
      · have : y % 2 = 0 := by have := mt hyl q2; omega
        omega
def sphC (T : Nat) (a b : Nat → Nat) (s : Nat) : Prop := s ≠ 0 ∧ cloN T a b s
section MSET
variable {d o n P T r lr s : Nat} {tk pt : Nat → Nat → Nat} {fi mk : Nat → Nat} {a b tb pb f : Nat → Nat} {V : aV} {m : mMem} {Q : Option Value → mMem → Prop}
theorem ev_setOfM {x t : Nat} (hd : 1 ≤ d) (hT : mWT m) (hO : m.1 o = some (.inr 8) ∧ o ≠ 0) (h6 : iF m o 6 = nI P) (hP : P ≤ 10) (hA : m.1 x = some (.inl (.int, 100)) ∧ x ≠ 0) (ht : t < 10) (hf : ∀ p, p < 10 → m.2.2.1 x (10 * t + p) = nI (f p)) (hf9 : ∀ p, f p ≤ 9) (hQ : Q (some (.int (nI (plB P f)))) m) : mEv d 214 [.ref o, .ref x, .int (nI t)] m Q := by
  refine mEv.at (by omega) G214 (Nat.le_of_ble_eq_true rfl) ?_
  refine bk214_0 hT hO hA ?_
  refine upto (e := P) (X := fun p => mEs (d - 1) 214 o g214 (5, [some (.ref o), some (.ref x), some (.int (nI t)), some (.int (nI (bs (fun p => 0 < f p) p))), some (.int (nI p))], [], m) Q) ?_ ?_ 0 (Nat.zero_le _)
  · refine bk214_5 hT hO hA ?_
    rw [h6, nIle (by omega) (by omega)]
    exact ⟨fun _ => hQ, fun c => absurd (Nat.le_refl _) c⟩
  · intro p hp ih
    have a1 := hf9 p
    refine bk214_5 hT hO hA ?_
    rw [h6, nIle (by omega) (by omega), l10, nI_mul, nI_add, nI_clamp (by omega), hf p (by omega), nIle0 (by omega), nIinc, Int32.or_zero, shl1 (by omega), or_n]
    refine ⟨fun c => by omega, fun _ => ⟨(nIin_iff (by omega)).mpr (by omega), fun c1 => ?_, fun c1 => ?_⟩⟩
    · rintro v rfl v2 rfl
      rw [bs_sf (C := fun p => 0 < f p) (by omega)] at ih; exact ih
    · rintro v rfl v2 rfl
      rw [bs_st (C := fun p => 0 < f p) (by omega)] at ih; exact ih
theorem ev_setTk {t : Nat} (hd : 1 ≤ d) (hT : mWT m) (hO : m.1 o = some (.inr 8) ∧ o ≠ 0) (hN : mNet m o P T tk pt) (hk : okNet P T tk pt fi) (ht : t < 10) (hQ : Q (some (.int (nI (tbS P tk t)))) m) : mEv d 214 [.ref o, .ref (64 * o + 2), .int (nI t)] m Q :=
  ev_setOfM (f := tk t) hd hT hO hN.1 hk.1 (hT.arr hO 1 rfl (by decide)) ht (hN.2.2.1 t ht) (hk.2.2.1 t) hQ
theorem ev_setPt {t : Nat} (hd : 1 ≤ d) (hT : mWT m) (hO : m.1 o = some (.inr 8) ∧ o ≠ 0) (hN : mNet m o P T tk pt) (hk : okNet P T tk pt fi) (ht : t < 10) (hQ : Q (some (.int (nI (tbS P pt t)))) m) : mEv d 214 [.ref o, .ref (64 * o + 3), .int (nI t)] m Q :=
  ev_setOfM (f := pt t) hd hT hO hN.1 hk.1 (hT.arr hO 2 rfl (by decide)) ht (hN.2.2.2 t ht) (hk.2.2.2.1 t) hQ
theorem tbS_lt (hP : P ≤ 10) (t : Nat) : tbS P tk t < 1024 := plB_lt _ hP
/-- what is touched, what is needed, by the kind -/
noncomputable def kA (P : Nat) (tk pt : Nat → Nat → Nat) (x : Int32) : Nat → Nat := if x = 0 then tbS P pt else tbS P tk
noncomputable def kB (P : Nat) (tk pt : Nat → Nat → Nat) (x : Int32) : Nat → Nat := if x = 0 then tbS P tk else tbS P pt
theorem setK_k {x : Int32} : setK T (tbS P tk) (tbS P pt) x = mnS T (kA P tk pt x) (kB P tk pt x) := by
  unfold setK kA kB
  by_cases q : x = 0
  · rw [if_pos q, if_pos q, if_pos q]
  · rw [if_neg q, if_neg q, if_neg q]
theorem ev_isSiphon {x : Int32} (hd : 2 ≤ d) (hT : mWT m) (hO : m.1 o = some (.inr 8) ∧ o ≠ 0) (hN : mNet m o P T tk pt) (hk : okNet P T tk pt fi) (hs : s < 1024) (hQ : Q (some (.int (bz (sphC T (kA P tk pt x) (kB P tk pt x) s)))) m) : mEv d 213 [.ref o, .int x, .int (nI s)] m Q := by
  have hP10 := hk.1
  have hk2 := hk.2.1
  refine mEv.at (by omega) G213 (Nat.le_of_ble_eq_true rfl) ?_
  refine bk213_0 hT hO ?_
  have go : ∀ t, t ≤ T → ∀ (so : Int32) (x5 x6 : Option Value), so = bz (s ≠ 0 ∧ ∀ u, u < t → ¬ kA P tk pt x u &&& s = 0 → ¬ kB P tk pt x u &&& s = 0) → mEs (d - 1) 213 o g213 (13, [some (.ref o), some (.int x), some (.int (nI s)), some (.int so), some (.int (nI t)), x5, x6], [], m) Q := by
    refine upto ?_ ?_
    · intro so x5 x6 hso
      refine bk213_13 hT hO ?_
      rw [hN.2.1, nIle (by omega) (by omega)]
      refine ⟨fun _ => ⟨by rw [hso]; exact bz_01 _, by rw [hso]; exact hQ⟩, fun c => absurd (Nat.le_refl _) c⟩
    · intro t ht ih so x5 x6 hso
      refine bk213_13 hT hO ?_
      rw [hN.2.1, nIle (by omega) (by omega)]
      refine ⟨fun c => by omega, fun _ => ?_⟩
      refine ev_setTk (by omega) hT hO hN hk (by omega) ?_
      refine bk213_32 hT hO ?_
      rintro v rfl
      refine ev_setPt (by omega) hT hO hN hk (by omega) ?_
      refine bk213_46 hT hO ?_
      rintro v rfl
      have a1 : tbS P tk t &&& s < 1024 := and_lt10 (tbS_lt hP10 t)
      have a2 : tbS P pt t &&& s < 1024 := and_lt10 (tbS_lt hP10 t)
      rw [and_n, and_n, nIeq0 (by omega), nIeq0 (by omega), nIinc]
      have no : so = 0 → ∀ (x5 x6 : Option Value), mEs (d - 1) 213 o g213 (13, [some (.ref o), some (.int x), some (.int (nI s)), some (.int 0), some (.int (nI (t + 1))), x5, x6], [], m) Q := by
        intro e x5 x6
        rw [hso, bz_0] at e
        refine ih 0 _ _ (bz_f (fun z => e ⟨z.1, fun u hu => z.2 u (by omega)⟩)).symm
      have yes : ¬ so = 0 → (¬ kA P tk pt x t &&& s = 0 → ¬ kB P tk pt x t &&& s = 0) → ∀ (x5 x6 : Option Value), mEs (d - 1) 213 o g213 (13, [some (.ref o), some (.int x), some (.int (nI s)), some (.int 1), some (.int (nI (t + 1))), x5, x6], [], m) Q := by
        intro e h x5 x6
        rw [hso, bz_n0] at e
        refine ih 1 _ _ (bz_t ⟨e.1, fun u hu => ?_⟩).symm
        by_cases eu : u = t
        · subst eu; exact h
        · exact e.2 u (by omega)
      have bad : ¬ (¬ kA P tk pt x t &&& s = 0 → ¬ kB P tk pt x t &&& s = 0) → ∀ (x5 x6 : Option Value), mEs (d - 1) 213 o g213 (13, [some (.ref o), some (.int x), some (.int (nI s)), some (.int 0), some (.int (nI (t + 1))), x5, x6], [], m) Q := by
        intro h x5 x6
        exact ih 0 _ _ (bz_f (fun z => h (z.2 t (Nat.lt_succ_self _)))).symm
      have ek1 : x = 0 → kA P tk pt x t = tbS P pt t ∧ kB P tk pt x t = tbS P tk t := fun e => by unfold kA kB; rw [if_pos e, if_pos e]; exact ⟨rfl, rfl⟩
      have ek2 : ¬ x = 0 → kA P tk pt x t = tbS P tk t ∧ kB P tk pt x t = tbS P pt t := fun e => by unfold kA kB; rw [if_neg e, if_neg e]; exact ⟨rfl, rfl⟩
      refine ⟨fun c0 => ?_, fun c0 => ⟨fun cx => ⟨fun c1 => ?_, fun c1 => ⟨fun c2 => ?_, fun c2 => ?_⟩⟩, fun cx => ⟨fun c1 => ?_, fun c1 => ⟨fun c2 => ?_, fun c2 => ?_⟩⟩⟩⟩
      · rintro v rfl; exact no c0 _ _
      · rintro v rfl
        refine yes c0 ?_ _ _
        rw [(ek2 cx).1]; exact fun z => absurd c1 z
      · rintro v rfl
        refine bad (fun z => ?_) _ _
        rw [(ek2 cx).1, (ek2 cx).2] at z
        exact z c1 c2
      · rintro v rfl
        refine yes c0 ?_ _ _
        rw [(ek2 cx).2]; exact fun _ => c2
      · rintro v rfl
        refine yes c0 ?_ _ _
        rw [(ek1 (Classical.not_not.mp cx)).1]; exact fun z => absurd c1 z
      · rintro v rfl
        refine bad (fun z => ?_) _ _
        rw [(ek1 (Classical.not_not.mp cx)).1, (ek1 (Classical.not_not.mp cx)).2] at z
        exact z c1 c2
      · rintro v rfl
        refine yes c0 ?_ _ _
        rw [(ek1 (Classical.not_not.mp cx)).2]; exact fun _ => c2
  rw [nIeq0 (by omega)]
  refine ⟨fun c0 => go 0 (Nat.zero_le _) 0 _ _ (bz_f (fun z => z.1 c0)).symm, fun c0 => go 0 (Nat.zero_le _) 1 _ _ (bz_t ⟨c0, fun u hu => absurd hu (Nat.not_lt_zero _)⟩).symm⟩
theorem ev_laySiphons {x : Int32} (hd : 3 ≤ d) (hT : mWT m) (hO : m.1 o = some (.inr 8) ∧ o ≠ 0) (hN : mNet m o P T tk pt) (hk : okNet P T tk pt fi)
    (hQ : ∀ m', mTo (fun k => k = 64 * o + 27) (fun _ _ => False) m m' → (∀ s, s < 2 ^ P → m'.2.2.1 (64 * o + 27) s = bz (sphC T (kA P tk pt x) (kB P tk pt x) s)) → Q none m') : mEv d 212 [.ref o, .int x] m Q := by
  have hP10 := hk.1
  have hp2 := p2_10 hP10
  refine mEv.at (by omega) G212 (Nat.le_of_ble_eq_true rfl) ?_
  refine bk212_0 hT hO ?_
  refine upto (e := 2 ^ P) (X := fun s => ∀ m', mTo (fun k => k = 64 * o + 27) (fun _ _ => False) m m' → (∀ i, i < s → m'.2.2.1 (64 * o + 27) i = bz (sphC T (kA P tk pt x) (kB P tk pt x) i)) → mEs (d - 1) 212 o g212 (2, [some (.ref o), some (.int x), some (.int (nI s))], [], m') Q) ?_ ?_ 0 (Nat.zero_le _) m (mTo.rf hT) (fun i hi => absurd hi (Nat.not_lt_zero _))
  · intro m' T' hI
    refine bk212_2 T'.wt (T'.ob hO) ?_
    rw [T'.nf id, hN.1, shl1 (by omega), nIle (by omega) (by omega)]
    exact ⟨fun _ => hQ m' T' hI, fun c => absurd (Nat.le_refl _) c⟩
  · intro s hs ih m' T' hI
    refine bk212_2 T'.wt (T'.ob hO) ?_
    rw [T'.nf id, hN.1, shl1 (by omega), nIle (by omega) (by omega)]
    refine ⟨fun c => by omega, fun _ => ?_⟩
    refine ev_isSiphon (x := x) (by omega) T'.wt (T'.ob hO) (hN.to T' (by omega) (by omega) id id) hk (by omega) ?_
    refine bk212_23 T'.wt (T'.ob hO) (ly0 := 1024) (T'.wt.arr (T'.ob hO) 26 rfl (by decide)) ⟨(nIin_iff (by omega)).mpr (by omega), bz_01 _, fun m2 em2 => ?_⟩
    rw [nI_clamp (by omega)] at em2
    obtain ⟨t2, a27⟩ := sI1 em2 T'.wt
    rintro v rfl
    rw [nIinc]
    refine ih m2 (T'.tr t2) (fun i hi => ?_)
    rw [a27]
    by_cases e : i = s
    · subst e; rw [up_s]
    · rw [up_n e]; exact hI i (by omega)
theorem ev_isLeast (hd : 1 ≤ d) (hT : mWT m) (hO : m.1 o = some (.inr 8) ∧ o ≠ 0) (hP : P ≤ 10) (hI : ∀ s, s < 2 ^ P → m.2.2.1 (64 * o + 27) s = bz (sphC T a b s)) (hs : s < 2 ^ P) (hs1 : 1 ≤ s) (hQ : Q (some (.int (bz (mnS T a b s)))) m) : mEv d 215 [.ref o, .int (nI s)] m Q := by
  have hp2 := p2_10 hP
  refine mEv.at (by omega) G215 (Nat.le_of_ble_eq_true rfl) ?_
  refine bk215_0 hT hO ?_
  rw [nI_clamp (by omega), hI s hs, nIdec (by omega), and_n]
  refine ⟨(nIin_iff (by omega)).mpr (by omega), ?_⟩
  rintro v rfl v2 rfl
  have go : ∀ x, sbN x s → x < s → ∀ so : Int32, so = bz (sphC T a b s ∧ ∀ y, y ≠ 0 → sbN y s → y ≠ s → x < y → ¬ cloN T a b y) → mEs (d - 1) 215 o g215 (13, [some (.ref o), some (.int (nI s)), some (.int so), some (.int (nI x))], [], m) Q := by
    intro x
    induction x using Nat.strongRecOn with
    | ind x ih =>
      intro hx hxs so hso
      refine bk215_13 hT hO ?_
      rw [nIle0 (by omega)]
      refine ⟨fun c0 => ?_, fun c0 => ⟨fun cs => ?_, fun cs => ⟨(nIin_iff (by omega)).mpr (by omega), ?_⟩⟩⟩
      · rw [hso]
        refine ⟨bz_01 _, ?_⟩
        rw [bz_cg (D := mnS T a b s)]
        · exact hQ
        · exact ⟨fun z => ⟨z.1.1, z.1.2, fun y h1 h2 h3 => z.2 y h1 h2 h3 (by omega)⟩, fun z => ⟨⟨z.1, z.2.1⟩, fun y h1 h2 h3 _ => z.2.2 y h1 h2 h3⟩⟩
      · rw [hso]
        refine ⟨bz_01 _, ?_⟩
        rw [hso, bz_0] at cs
        rw [bz_f cs]
        rw [bz_f (C := mnS T a b s) (fun z => cs ⟨⟨z.1, z.2.1⟩, fun y h1 h2 h3 _ => z.2.2 y h1 h2 h3⟩)] at hQ
        exact hQ
      · have hle : (x - 1) &&& s ≤ x - 1 := Nat.and_le_left
        rw [hso, bz_n0] at cs
        rw [nI_clamp (by omega), hI x (by omega), bz_n0, nIdec (by omega), and_n]
        have hsb : sbN ((x - 1) &&& s) s := fun i q => by rw [Nat.testBit_and, Bool.and_eq_true] at q; exact q.2
        refine ⟨fun c1 => ?_, fun c1 => ?_⟩
        · rintro v rfl
          refine ih _ (by omega) hsb (by omega) 0 (bz_f (fun z => z.2 x c0 hx (by omega) (by omega) c1.2)).symm
        · rintro v rfl
          refine ih _ (by omega) hsb (by omega) 1 (bz_t ⟨cs.1, fun y h1 h2 h3 h4 => ?_⟩).symm
          rcases Nat.lt_trichotomy y x with h | h | h
          · have := sub_next s x y h2 hx h
            omega
          · subst h; exact fun z => c1 ⟨h1, z⟩
          · exact cs.2 y h1 h2 h3 h
  have hle : (s - 1) &&& s ≤ s - 1 := Nat.and_le_left
  refine go _ (fun i q => by rw [Nat.testBit_and, Bool.and_eq_true] at q; exact q.2) (by omega) _ (bz_cg ⟨fun z => ⟨z, fun y h1 h2 h3 h4 => ?_⟩, fun z => z.1⟩)
  have h5 := sb_le h2
  have := sub_next s s y h2 sb_rf (by omega)
  omega
theorem ev_trapOf (hd : 2 ≤ d) (hT : mWT m) (hO : m.1 o = some (.inr 8) ∧ o ≠ 0) (hN : mNet m o P T tk pt) (hk : okNet P T tk pt fi) (hs : s < 1024) (hQ : Q (some (.int (nI (gtN T (tbS P tk) (tbS P pt) s)))) m) : mEv d 217 [.ref o, .int (nI s)] m Q := by
  have hP10 := hk.1
  have hk2 := hk.2.1
  have tl : ∀ t, tbS P tk t < 1024 := fun t => tbS_lt hP10 t
  have pl : ∀ t, tbS P pt t < 1024 := fun t => tbS_lt hP10 t
  refine mEv.at (by omega) G217 (Nat.le_of_ble_eq_true rfl) ?_
  refine bk217_0 hT hO ?_
  have go : ∀ k (r0 : Nat) (more : Int32) (x4 x5 : Option Value), pcN r0 < k → r0 < 1024 → gtI T (tbS P tk) (tbS P pt) s r0 → (more = 0 → cloN T (tbS P tk) (tbS P pt) r0) → mEs (d - 1) 217 o g217 (4, [some (.ref o), some (.int (nI s)), some (.int (nI r0)), some (.int more), x4, x5], [], m) Q := by
    intro k
    induction k with
    | zero => intro r0 more x4 x5 h; exact absurd h (Nat.not_lt_zero _)
    | succ k ih =>
      intro r0 more x4 x5 hk0 hr0 hI0 hc0
      refine bk217_4 hT hO ⟨fun c => ?_, fun c => ?_⟩
      · rw [gtN_eq ⟨hI0.1, hc0 c, hI0.2⟩] at hQ; exact hQ
      refine upto (e := T) (X := fun t => ∀ (r : Nat) (more : Int32) (x5 : Option Value), r < 1024 → gtI T (tbS P tk) (tbS P pt) s r → pcN r ≤ pcN r0 → (¬ more = 0 → pcN r < pcN r0) → (more = 0 → ∀ u, u < t → ¬ tbS P tk u &&& r = 0 → ¬ tbS P pt u &&& r = 0) → mEs (d - 1) 217 o g217 (13, [some (.ref o), some (.int (nI s)), some (.int (nI r)), some (.int more), some (.int (nI t)), x5], [], m) Q) ?_ ?_ 0 (Nat.zero_le _) r0 0 _ hr0 hI0 (Nat.le_refl _) (fun z => absurd rfl z) (fun _ u hu => absurd hu (Nat.not_lt_zero _))
      · intro r more x5 hr hI hle hlt hcl
        refine bk217_13 hT hO ?_
        rw [hN.2.1, nIle (by omega) (by omega)]
        refine ⟨fun _ => ?_, fun c => absurd (Nat.le_refl _) c⟩
        by_cases q : more = 0
        · refine bk217_4 hT hO ⟨fun _ => ?_, fun c => absurd q c⟩
          rw [gtN_eq ⟨hI.1, hcl q, hI.2⟩] at hQ; exact hQ
        · have := hlt q
          exact ih r more _ _ (by omega) hr hI (fun z => absurd z q)
      · intro t ht ih2 r more x5 hr hI hle hlt hcl
        have a1 : tbS P tk t &&& r < 1024 := and_lt10 (tl t)
        have a2 : tbS P pt t &&& r < 1024 := and_lt10 (pl t)
        have nx : (¬ tbS P tk t &&& r = 0 → ¬ tbS P pt t &&& r = 0) → ∀ x5 : Option Value, mEs (d - 1) 217 o g217 (13, [some (.ref o), some (.int (nI s)), some (.int (nI r)), some (.int more), some (.int (nI (t + 1))), x5], [], m) Q := by
          intro h x5
          refine ih2 r more _ hr hI hle hlt (fun z u hu => ?_)
          by_cases e : u = t
          · subst e; exact h
          · exact hcl z u (by omega)
        refine bk217_13 hT hO ?_
        rw [hN.2.1, nIle (by omega) (by omega)]
        refine ⟨fun c => by omega, fun _ => ?_⟩
        refine ev_setTk (by omega) hT hO hN hk (by omega) ?_
        refine bk217_32 hT hO ?_
        rintro v rfl
        rw [and_n, nIeq0 (by omega), nIinc]
        refine ⟨fun c1 => ?_, fun c1 => ?_⟩
        · rintro v rfl
          exact nx (fun z => absurd c1 z) _
        · refine ev_setPt (by omega) hT hO hN hk (by omega) ?_
          refine bk217_51 hT hO ?_
          rw [and_n, nIeq0 (by omega), not_n hr, dfB_and hr, nIinc]
          refine ⟨fun c2 => ?_, fun c2 => ?_⟩
          · rintro v rfl
            exact nx (fun _ => c2) _
          · rintro v rfl v2 rfl
            have hlt2 := pc_sub (dfB_sb (x := tbS P tk t) hr) hr (fun e => c1 ((dfB_self hr).mp e))
            exact ih2 (dfB r (tbS P tk t)) 1 _ (dfB_lt hr) (gt_step hI hr ht (Classical.not_not.mp c2)) (by omega) (fun _ => by omega) (fun z => absurd z (by decide))
  exact go (pcN s + 1) s 1 _ _ (Nat.lt_succ_self _) hs ⟨sb_rf, fun x h _ => h⟩ (fun z => absurd z (by decide))
end MSET
