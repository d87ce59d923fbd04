/-! What the class answers about flows. -/
abbrev fwK (m : mMem) (x f s nv P T : Nat) (pl : Prop) (tk pt : Nat → Nat → Nat) : Prop := caK m x f s 4 nv (fun m c => ∃ ra rb, fl0 m c pl ra rb) (fun m c => flC m c (wP pl P T) (wE pl P T) pl (dF pl tk pt))
/-- both caches of flows -/
def fK2 (m : mMem) (x nv P T : Nat) (tk pt : Nat → Nat → Nat) : Prop := fwK m x 11 9 nv P T True tk pt ∧ fwK m x 12 10 nv P T False tk pt
def flNw (x a : Nat) : Prop := gwN (64 * x + 9) a ∨ gwN (64 * x + 10) a
abbrev flG (x : Nat) (m m' : mMem) : Prop := gFr (fun k f => k = x ∧ (f = 11 ∨ f = 12)) (flNw x) 8 7300 m m'
section CPUF
variable {d x n nv P T : Nat} {tk pt : Nat → Nat → Nat} {fi : Nat → Nat} {V : aV} {m m' : mMem} {Q : Option Value → mMem → Prop}
theorem flG.rf (hT : mWT m) : flG x m m := (gFr.rf hT).mono (fun _ _ z => z) (fun _ z => z) (by omega) (by omega)
theorem flG.cs (h : flG x m m') (hS : cS m x n P T tk pt fi V) (hn : ∀ a, gwN n a → ¬ flNw x a) : cS m' x n P T tk pt fi V :=
  hS.fr h hn (fun _ z => hS.ne z.1) (fun a h1 h2 => by have := hS.1.2; unfold flNw gwN at h2; omega) (fun f hf z => by omega)
theorem fok2 {pl : Prop} {S : fwS} (hk : okNet P T tk pt fi) (hz : fZ (wP pl P T) (wE pl P T) (dF pl tk pt) (wE pl P T) = some S) : fOk (wP pl P T) (dF pl tk pt) S :=
  fZ_ok (w10 hk).1 (dF_9 hk pl) (dF_E hk) _ _ hz
theorem ev_fNow {pl : Prop} (hd : 7 ≤ d) (hT : mWT m) (hS : cS m x n P T tk pt fi V) (hv : iF m x 7 = nI nv) (h0 : 0 < nv) (hm9 : nv < 2 ^ 31) (hn : ∀ a, gwN n a → ¬ flNw x a) (hC : fK2 m x nv P T tk pt)
    (c1 : pl = True → ∀ m' c, flG x m m' → fK2 m' x nv P T tk pt → flC m' c (wP pl P T) (wE pl P T) pl (dF pl tk pt) → Q (some (.ref c)) m') : pl = True → mEv d 79 [.ref x] m Q := by
  intro e
  subst e
  have hx0 := hS.1.2
  refine ev_now79 (by omega) hT hS hv h0 hm9 (fun a h z => hn a h (Or.inl z)) hC.1 ?_
  intro m1 R h1 hok
  refine c1 rfl m1 _ (R.mono (fun k f z => ⟨z.1, Or.inl z.2⟩) (fun _ z => Or.inl z) (Nat.le_refl _) (Nat.le_refl _)) ⟨h1, ?_⟩ hok
  exact hC.2.fr R lcl_fl0 lcl_fl (fun z => by unfold gwN at z; omega) (fun z => by omega) (fun a z1 z2 => by unfold gwN at z1 z2; omega) (fun f z => by omega)
theorem ev_tNow {pl : Prop} (hd : 7 ≤ d) (hT : mWT m) (hS : cS m x n P T tk pt fi V) (hv : iF m x 7 = nI nv) (h0 : 0 < nv) (hm9 : nv < 2 ^ 31) (hn : ∀ a, gwN n a → ¬ flNw x a) (hC : fK2 m x nv P T tk pt)
    (c1 : pl = False → ∀ m' c, flG x m m' → fK2 m' x nv P T tk pt → flC m' c (wP pl P T) (wE pl P T) pl (dF pl tk pt) → Q (some (.ref c)) m') : pl = False → mEv d 92 [.ref x] m Q := by
  intro e
  subst e
  have hx0 := hS.1.2
  refine ev_now92 (by omega) hT hS hv h0 hm9 (fun a h z => hn a h (Or.inr z)) hC.2 ?_
  intro m1 R h1 hok
  refine c1 rfl m1 _ (R.mono (fun k f z => ⟨z.1, Or.inr z.2⟩) (fun _ z => Or.inr z) (Nat.le_refl _) (Nat.le_refl _)) ⟨?_, h1⟩ hok
  exact hC.1.fr R lcl_fl0 lcl_fl (fun z => by unfold gwN at z; omega) (fun z => by omega) (fun a z1 z2 => by unfold gwN at z1 z2; omega) (fun f z => by omega)
theorem flC.ob {c W E : Nat} {pl : Prop} {D : Nat → Nat → Int} (h : flC m c W E pl D) : m.1 c = some (.inr 4) ∧ c ≠ 0 := by
  obtain ⟨ra, rb, B, _⟩ := h
  exact B.1
theorem ev_keptC {y : Int32} (hd : 9 ≤ d) (hT : mWT m) (hS : cS m x n P T tk pt fi V) (hv : iF m x 7 = nI nv) (h0 : 0 < P → 0 < nv) (hm9 : nv < 2 ^ 31) (hn : ∀ a, gwN n a → ¬ flNw x a) (hC : fK2 m x nv P T tk pt)
    (hQ : ∀ m', flG x m m' → fK2 m' x nv P T tk pt → Q (some (.int (keptA P T tk pt V.1 y))) m') : mEv d 94 [.ref x, .int y] m Q := by
  obtain ⟨hO, hnx, hN, hk, s1, s2, s3, s4, s5, s6, s7, s8⟩ := id hS
  have h10 := hk.1
  have hno : ¬ (0 < P ∧ 0 ≤ y) → Q (some (.int (-1))) m := by
    intro c
    have q := hQ m (flG.rf hT) hC
    unfold keptA at q
    rw [cif_f c] at q
    exact q
  refine mEv.at (by omega) G94 (Nat.le_of_ble_eq_true rfl) ?_
  refine bk94_0 hT hO ?_
  refine ev_hasNet (by omega) hT hS ?_
  refine bk94_4 hT hO ?_
  rw [bz_0]
  refine ⟨fun c => hno (fun h => c h.1), fun c => ⟨fun c2 => ?_, fun c2 => hno (fun h => c2 h.2)⟩⟩
  have eT : (nI 0 = 0) = True := eq_true rfl
  refine ev_fNow (pl := (nI 0 = 0)) (by omega) hT hS hv (h0 (Classical.not_not.mp c)) hm9 hn hC ?_ eT
  intro _ m1 cc R hC1 hok
  have q := hQ m1 R hC1
  unfold keptA at q
  rw [cif_t ⟨Classical.not_not.mp c, c2⟩] at q
  unfold keptT2 flF at q
  have hS1 := flG.cs R hS hn
  refine bk94_17 R.wt hS1.1 hok.ob ?_
  rcases hok.far with ⟨e1, e2⟩ | ⟨S, e1, e2, e3⟩
  · rw [e1] at q
    rw [e2]
    exact ⟨fun e => absurd e (by decide), fun _ => bk94_39 R.wt hS1.1 hok.ob q⟩
  · rw [e1] at q
    rw [e2]
    refine ⟨fun _ => ?_, fun e => absurd rfl e⟩
    refine ev_weigh (lr := 64 * x + 4) (n := 10) (mk := V.1) (S := S) (by omega) R.wt hok (w10 hk).1 e1 (fok2 hk e1) (R.wt.arr hS1.1 0 rfl (by decide)) (by omega) hS1.2.2.2.2.1 s2 ?_
    exact bk94_39 R.wt hS1.1 hok.ob q
theorem ev_flowC {k y z : Int32} (hd : 9 ≤ d) (hT : mWT m) (hS : cS m x n P T tk pt fi V) (hv : iF m x 7 = nI nv) (h0 : 0 < P → 0 < nv) (hm9 : nv < 2 ^ 31) (hn : ∀ a, gwN n a → ¬ flNw x a) (hC : fK2 m x nv P T tk pt)
    (hQ : ∀ m', flG x m m' → fK2 m' x nv P T tk pt → Q (some (.int (flowA P T tk pt k y z))) m') : mEv d 77 [.ref x, .int k, .int y, .int z] m Q := by
  obtain ⟨hO, hnx, hN, hk, s1, s2, s3, s4, s5, s6, s7, s8⟩ := id hS
  have h10 := hk.1
  unfold flowA at hQ
  have hno : ¬ (0 < P ∧ (k = 0 ∨ k = 1) ∧ ¬ y < -1 ∧ (y = -1 ∨ pIx (wP (k = 0) P T) z)) → Q (some (.int (-1))) m := by
    intro c
    have q := hQ m (flG.rf hT) hC
    rw [cif_f c] at q
    exact q
  have fin : ∀ (x4 : Int32) (m1 : mMem) (cc : Nat), (0 < P ∧ (k = 0 ∨ k = 1) ∧ ¬ y < -1 ∧ (y = -1 ∨ pIx (wP (k = 0) P T) z)) → flG x m m1 → fK2 m1 x nv P T tk pt → flC m1 cc (wP (k = 0) P T) (wE (k = 0) P T) (k = 0) (dF (k = 0) tk pt) → mEs (d - 1) 77 x g77 (74, [some (.ref x), some (.int k), some (.int y), some (.int z), some (.int x4), none], [.ref cc], m1) Q := by
    intro x4 m1 cc ask R hC1 hok
    have q := hQ m1 R hC1
    rw [cif_t ask] at q
    unfold flowT2 flF at q
    have hS1 := flG.cs R hS hn
    refine bk77_74 R.wt hS1.1 hok.ob ?_
    rcases hok.far with ⟨e1, e2⟩ | ⟨S, e1, e2, e3⟩
    · rw [e1] at q
      rw [e2]
      exact ⟨fun e => absurd e (by decide), fun _ => q⟩
    · rw [e1] at q
      rw [e2]
      replace q : Q (some (.int (cif (y = -1) (nI S.1) (flwT (wP (k = 0) P T) S y z)))) m1 := q
      refine ⟨fun _ => ⟨fun c5 => ?_, fun c5 => ?_⟩, fun e => absurd rfl e⟩
      · rw [cif_f c5] at q
        refine ev_flTell (S := S) (by omega) R.wt hok (w10 hk).1 e1 (fok2 hk e1) (ask.2.2.2.elim (fun e => absurd e c5) id) ?_
        exact bk77_107 R.wt hS1.1 hok.ob q
      · rw [cif_t (Classical.not_not.mp c5)] at q
        rw [e3]
        exact bk77_107 R.wt hS1.1 hok.ob q
  have go : ∀ (C : Prop) (x4 : Int32), (x4 ≠ 0 ↔ C) → (C ↔ (y = -1 ∨ pIx (wP (k = 0) P T) z)) → mEs (d - 1) 77 x g77 (45, [some (.ref x), some (.int k), some (.int y), some (.int z), some (.int x4), none], [.int (bz (0 < P))], m) Q := by
    intro C x4 e1 e2
    refine bk77_45 hT hO ?_
    rw [bz_0]
    refine ⟨fun c => hno (fun h => c h.1), fun c => ⟨fun c2 => hno (fun h => (i01.mpr h.2.1).1 c2), fun c2 => ⟨fun c3 => hno (fun h => (i01.mpr h.2.1).2 c3), fun c3 => ⟨fun c4 => hno (fun h => h.2.2.1 c4), fun c4 => ⟨fun c5 => ?_, fun c5 => hno (fun h => c5 (e1.mpr (e2.mpr h.2.2.2)))⟩⟩⟩⟩⟩
    have ask : 0 < P ∧ (k = 0 ∨ k = 1) ∧ ¬ y < -1 ∧ (y = -1 ∨ pIx (wP (k = 0) P T) z) := ⟨Classical.not_not.mp c, i01.mp ⟨c2, c3⟩, c4, e2.mp (e1.mp c5)⟩
    refine mEv.at (by omega) G78 (Nat.le_of_ble_eq_true rfl) ?_
    refine bk78_0 hT hO ⟨fun k0 => ?_, fun k0 => ?_⟩
    · refine ev_tNow (pl := (k = 0)) (by omega) hT hS hv (h0 ask.1) hm9 hn hC ?_ (eq_false k0)
      intro _ m1 cc R hC1 hok
      exact bk78_15 R.wt (flG.cs R hS hn).1 hok.ob (fin x4 m1 cc ask R hC1 hok)
    · refine ev_fNow (pl := (k = 0)) (by omega) hT hS hv (h0 ask.1) hm9 hn hC ?_ (eq_true (Classical.not_not.mp k0))
      intro _ m1 cc R hC1 hok
      exact bk78_8 R.wt (flG.cs R hS hn).1 hok.ob (bk78_15 R.wt (flG.cs R hS hn).1 hok.ob (fin x4 m1 cc ask R hC1 hok))
  refine mEv.at (by omega) G77 (Nat.le_of_ble_eq_true rfl) ?_
  refine bk77_0 hT hO ⟨fun c => ?_, fun c => ⟨fun k0 => ⟨n, hnx, hN.1, ?_⟩, fun k0 => ⟨n, hnx, hN.1, ?_⟩⟩⟩
  · refine ev_hasNet (by omega) hT hS ?_
    exact go True 1 ⟨fun _ => trivial, fun _ => one0⟩ ⟨fun _ => Or.inl c, fun _ => trivial⟩
  · have eW : wP (k = 0) P T = T := by unfold wP; exact cif_f k0
    refine ev_hasTr (by omega) hT hN hk _ ?_
    refine bk77_31 hT hO ?_
    rw [bz_0]
    refine ⟨fun c3 => ?_, fun c3 => ?_⟩
    · refine ev_hasNet (by omega) hT hS ?_
      exact go False 0 ⟨fun h => h rfl, fun h => h.elim⟩ ⟨fun h => h.elim, fun h => h.elim c (fun h => c3 (by rw [eW] at h; exact h))⟩
    · refine ev_hasNet (by omega) hT hS ?_
      exact go True 1 ⟨fun _ => trivial, fun _ => one0⟩ ⟨fun _ => Or.inr (by rw [eW]; exact Classical.not_not.mp c3), fun _ => trivial⟩
  · have eW : wP (k = 0) P T = P := by unfold wP; exact cif_t (Classical.not_not.mp k0)
    refine ev_hasPl (by omega) hT hN hk _ ?_
    refine bk77_17 hT hO ?_
    rw [bz_0]
    refine ⟨fun c3 => ?_, fun c3 => ?_⟩
    · refine ev_hasNet (by omega) hT hS ?_
      exact go False 0 ⟨fun h => h rfl, fun h => h.elim⟩ ⟨fun h => h.elim, fun h => h.elim c (fun h => c3 (by rw [eW] at h; exact h))⟩
    · refine ev_hasNet (by omega) hT hS ?_
      exact go True 1 ⟨fun _ => trivial, fun _ => one0⟩ ⟨fun _ => Or.inr (by rw [eW]; exact Classical.not_not.mp c3), fun _ => trivial⟩
end CPUF
