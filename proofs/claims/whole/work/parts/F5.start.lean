/-! The law: its start. -/
set_option maxRecDepth 20000 in
theorem ct1z {d : Nat} {m : mMem} {Q : Option Value → mMem → Prop} (hd : 4 ≤ d) (o0 : m.1 1 = some (.inr 0)) (h0 : ∀ a, a ≠ 1 → a ≠ 0 → m.1 a = none) (hQ : Q none (inZ m)) : mEv d 1 [.ref 1] m Q := by
  have n0 : ∀ a, a ≠ 1 → (64 < a ∧ a ≤ 4160) ∨ 4160 ≤ a → m.1 a = none := fun a h h2 => h0 a h (by omega)
  refine mEv.at (by omega) G1 (Nat.le_of_ble_eq_true rfl) ?_
  refine e_aload_n (pc' := 1) (dAt D1 0 rfl) rfl rfl ?_
  refine e_objInit (pc' := 4) (dAt D1 1 rfl) rfl rfl ⟨by omega, Nat.le_of_ble_eq_true rfl⟩ ?_
  refine e_aload_n (pc' := 5) (dAt D1 2 rfl) rfl rfl ?_
  refine e_new (pc' := 8) (x := 65) (dAt D1 3 rfl) rfl rfl rfl rfl ⟨n0 65 (by omega) (by omega), by omega⟩ ?_
  refine e_dup (pc' := 9) (dAt D1 4 rfl) rfl rfl ?_
  have hN0 : (mNewO m 65 1).1 65 = some (.inr 1) ∧ 65 ≠ 0 := ⟨nO_eq, by omega⟩
  refine e_call2 (As := [.ref 65]) (rest := [.ref 65, .ref 1]) (ct2 (by omega) hN0 (fun r hr => by have := ok2.2.2.1 r hr; rw [nO_ne (by omega)]; exact n0 _ (by omega) (by omega)) ?_) (dAt D1 5 rfl) (hi1 rfl) rfl G2 (by decide) rfl (Nat.le_of_ble_eq_true rfl) rfl rfl rfl
  have hX0 : (ctM (mNewO m 65 1) 65 ow2).1 1 = some (.inr 0) ∧ 1 ≠ 0 := ⟨by rw [ctM_1 ow2 _ (fun r _ => by omega)]; rw [nO_ne (by omega)]; exact o0, by omega⟩
  refine e_putfield (pc' := 15) (dAt D1 6 rfl) rfl rfl hX0 rfl rfl (fun _ => ⟨rfl, rfl⟩) ?_
  have o1 : (in1 m).1 1 = some (.inr 0) := by rw [in1_1 (by omega)]; exact o0
  have n1 : ∀ a, a ≠ 1 → (65 < a ∧ a ≤ 4160) ∨ 4224 ≤ a → (in1 m).1 a = none := by
    intro a h1 h2
    show (ctM (mNewO m 65 1) 65 ow2).1 a = none
    rw [ctM_1 ow2 _ (fun r hr => by have := ok2.2.2.1 r hr; omega)]
    rw [nO_ne (by omega)]
    exact n0 a h1 (by omega)
  show mEs (d - 1) 1 1 g1 (15, [some (.ref 1)], [], in1 m) Q
  refine e_aload_n (pc' := 16) (dAt D1 7 rfl) rfl rfl ?_
  refine e_new (pc' := 19) (x := 66) (dAt D1 8 rfl) rfl rfl rfl rfl ⟨n1 66 (by omega) (by omega), by omega⟩ ?_
  refine e_dup (pc' := 20) (dAt D1 9 rfl) rfl rfl ?_
  have hN1 : (mNewO (in1 m) 66 2).1 66 = some (.inr 2) ∧ 66 ≠ 0 := ⟨nO_eq, by omega⟩
  refine e_call2 (As := [.ref 66]) (rest := [.ref 66, .ref 1]) (ct3 (by omega) hN1 (fun r hr => by have := ok3.2.2.1 r hr; rw [nO_ne (by omega)]; exact n1 _ (by omega) (by omega)) ?_) (dAt D1 10 rfl) (hi1 rfl) rfl G3 (by decide) rfl (Nat.le_of_ble_eq_true rfl) rfl rfl rfl
  have hX1 : (ctM (mNewO (in1 m) 66 2) 66 ow3).1 1 = some (.inr 0) ∧ 1 ≠ 0 := ⟨by rw [ctM_1 ow3 _ (fun r _ => by omega)]; rw [nO_ne (by omega)]; exact o1, by omega⟩
  refine e_putfield (pc' := 26) (dAt D1 11 rfl) rfl rfl hX1 rfl rfl (fun _ => ⟨rfl, rfl⟩) ?_
  have o2 : (in2 m).1 1 = some (.inr 0) := by rw [in2_1 (by omega)]; exact o1
  have n2 : ∀ a, a ≠ 1 → (66 < a ∧ a ≤ 4160) ∨ 4288 ≤ a → (in2 m).1 a = none := by
    intro a h1 h2
    show (ctM (mNewO (in1 m) 66 2) 66 ow3).1 a = none
    rw [ctM_1 ow3 _ (fun r hr => by have := ok3.2.2.1 r hr; omega)]
    rw [nO_ne (by omega)]
    exact n1 a h1 (by omega)
  show mEs (d - 1) 1 1 g1 (26, [some (.ref 1)], [], in2 m) Q
  refine e_aload_n (pc' := 27) (dAt D1 12 rfl) rfl rfl ?_
  refine e_new (pc' := 30) (x := 67) (dAt D1 13 rfl) rfl rfl rfl rfl ⟨n2 67 (by omega) (by omega), by omega⟩ ?_
  refine e_dup (pc' := 31) (dAt D1 14 rfl) rfl rfl ?_
  have hN2 : (mNewO (in2 m) 67 2).1 67 = some (.inr 2) ∧ 67 ≠ 0 := ⟨nO_eq, by omega⟩
  refine e_call2 (As := [.ref 67]) (rest := [.ref 67, .ref 1]) (ct3 (by omega) hN2 (fun r hr => by have := ok3.2.2.1 r hr; rw [nO_ne (by omega)]; exact n2 _ (by omega) (by omega)) ?_) (dAt D1 15 rfl) (hi1 rfl) rfl G3 (by decide) rfl (Nat.le_of_ble_eq_true rfl) rfl rfl rfl
  have hX2 : (ctM (mNewO (in2 m) 67 2) 67 ow3).1 1 = some (.inr 0) ∧ 1 ≠ 0 := ⟨by rw [ctM_1 ow3 _ (fun r _ => by omega)]; rw [nO_ne (by omega)]; exact o2, by omega⟩
  refine e_putfield (pc' := 37) (dAt D1 16 rfl) rfl rfl hX2 rfl rfl (fun _ => ⟨rfl, rfl⟩) ?_
  have o3 : (in3 m).1 1 = some (.inr 0) := by rw [in3_1 (by omega)]; exact o2
  have n3 : ∀ a, a ≠ 1 → (67 < a ∧ a ≤ 4160) ∨ 4352 ≤ a → (in3 m).1 a = none := by
    intro a h1 h2
    show (ctM (mNewO (in2 m) 67 2) 67 ow3).1 a = none
    rw [ctM_1 ow3 _ (fun r hr => by have := ok3.2.2.1 r hr; omega)]
    rw [nO_ne (by omega)]
    exact n2 a h1 (by omega)
  show mEs (d - 1) 1 1 g1 (37, [some (.ref 1)], [], in3 m) Q
  rw [show in3 m = ctM (in3 m) 1 [] from rfl]
  refine ct_one (r := (3, 4, .int, 10)) (z := 10) (pc2 := 38) (pc3 := 40) (pc4 := 42) (pc5 := 45) (dAt D1 17 rfl) rfl rfl (fun S m K => e_bipush (pc' := 40) (v := 10) (dAt D1 18 rfl) rfl (by decide) K) (dAt D1 19 rfl) rfl rfl rfl ⟨by decide, by decide, by decide⟩ (by decide) (dAt D1 20 rfl) rfl rfl ⟨o3, by omega⟩ (fun x => rfl) (fun x => rfl) (fun _ => ⟨rfl, rfl⟩) (by decide) (by decide) (n3 _ (by decide) (by decide)) ?_
  refine ct_one (r := (4, 5, .int, 10)) (z := 10) (pc2 := 46) (pc3 := 48) (pc4 := 50) (pc5 := 53) (dAt D1 21 rfl) rfl rfl (fun S m K => e_bipush (pc' := 48) (v := 10) (dAt D1 22 rfl) rfl (by decide) K) (dAt D1 23 rfl) rfl rfl rfl ⟨by decide, by decide, by decide⟩ (by decide) (dAt D1 24 rfl) rfl rfl ⟨o3, by omega⟩ (fun x => rfl) (fun x => rfl) (fun _ => ⟨rfl, rfl⟩) (by decide) (by decide) (n3 _ (by decide) (by decide)) ?_
  refine ct_one (r := (5, 6, .int, 100)) (z := 100) (pc2 := 54) (pc3 := 56) (pc4 := 58) (pc5 := 61) (dAt D1 25 rfl) rfl rfl (fun S m K => e_bipush (pc' := 56) (v := 100) (dAt D1 26 rfl) rfl (by decide) K) (dAt D1 27 rfl) rfl rfl rfl ⟨by decide, by decide, by decide⟩ (by decide) (dAt D1 28 rfl) rfl rfl ⟨o3, by omega⟩ (fun x => rfl) (fun x => rfl) (fun _ => ⟨rfl, rfl⟩) (by decide) (by decide) (n3 _ (by decide) (by decide)) ?_
  exact e_return (dAt D1 29 rfl) rfl hQ
/-- without the script -/
def er (m : mMem) : mMem := (fun k => if k = 0 then none else m.1 k, m.2)
section ERA
variable {m : mMem} {k : Nat}
theorem er_row {x : Option mLy} (hk : k ≠ 0) : mRow (er m).1 k x = fun j => if j = 0 then none else mRow m.1 k x j := by
  funext j
  unfold mRow er
  by_cases h : j = k
  · subst h
    rw [if_pos rfl, if_pos rfl, if_neg hk]
  · rw [if_neg h, if_neg h]
theorem er_newO {ci : Nat} (hk : k ≠ 0) : mNewO (er m) k ci = er (mNewO m k ci) := by
  unfold mNewO
  rw [er_row hk]
  rfl
theorem er_newA {ty : FieldType} {n : Nat} (hk : k ≠ 0) : mNewA (er m) k ty n = er (mNewA m k ty n) := by
  unfold mNewA
  rw [er_row hk]
  rfl
theorem er_ctL {r : Nat × Nat × FieldType × Nat} (hk : k ≠ 0) : ctL (er m) k r = er (ctL m k r) := by
  unfold ctL
  rw [er_newA (by omega)]
  rfl
theorem er_ctM (hk : k ≠ 0) : ∀ (l : List (Nat × Nat × FieldType × Nat)) (m : mMem), ctM (er m) k l = er (ctM m k l) := by
  intro l
  induction l with
  | nil => intro m; rfl
  | cons r l ih =>
    intro m
    show ctM (ctL (er m) k r) k l = er (ctM (ctL m k r) k l)
    rw [er_ctL hk, ih]
theorem er_inZ : inZ (er m) = er (inZ m) := by
  have e1 : in1 (er m) = er (in1 m) := by
    unfold in1
    rw [er_newO (by decide), er_ctM (by decide)]
    rfl
  have e2 : in2 (er m) = er (in2 m) := by
    unfold in2
    rw [e1, er_newO (by decide), er_ctM (by decide)]
    rfl
  have e3 : in3 (er m) = er (in3 m) := by
    unfold in3
    rw [e2, er_newO (by decide), er_ctM (by decide)]
    rfl
  unfold inZ
  rw [e3, er_ctM (by decide)]
theorem er_wt (h : mWT (er m)) (h0 : ∀ ci, m.1 0 ≠ some (.inr ci)) : mWT m := by
  intro k ci hk
  have k0 : k ≠ 0 := fun e => h0 ci (by rw [← e]; exact hk)
  have e : ∀ a, a ≠ 0 → (er m).1 a = m.1 a := fun a ha => if_neg ha
  obtain ⟨h1, h2⟩ := h k ci (by rw [e k k0]; exact hk)
  refine ⟨fun r hr => ?_, h2⟩
  obtain ⟨q1, q2⟩ := h1 r hr
  refine ⟨q1, ?_⟩
  rw [← e (64 * k + r.2.1) (by omega)]
  exact q2
end ERA
section STA
variable {L : Nat} {xs : Nat → Int32} {Lw : mSt → Prop}
abbrev st1 (L : Nat) (xs : Nat → Int32) : mMem := inZ (mNewO (mM0 L xs) 1 0)
abbrev st2 (L : Nat) (xs : Nat → Int32) : mMem := ctM (mNewO (st1 L xs) 2 8) 2 ow147
abbrev st3 (L : Nat) (xs : Nat → Int32) : mMem := mNewA (st2 L xs) 3 .long 1
theorem st1_0 {a : Nat} (h1 : a ≠ 1) (h2 : a < 65 ∨ (70 < a ∧ a ≤ 4160) ∨ 4352 ≤ a) : (st1 L xs).1 a = (mM0 L xs).1 a := by
  show (ctM _ 1 ow1).1 a = _
  rw [ctM_1 ow1 _ (fun r hr => by have := ok1.2.2.1 r hr; omega), in3_1 (by omega), in2_1 (by omega), in1_1 (by omega), nO_ne h1]
theorem st1_i : (st1 L xs).2.2.1 0 = xs := by
  show (ctM (in3 (mNewO (mM0 L xs) 1 0)) 1 ow1).2.2.1 0 = _
  rw [(ctM_ne ow1 _ (fun r hr => by omega)).1]
  show (ctM (mNewO (in2 (mNewO (mM0 L xs) 1 0)) 67 2) 67 ow3).2.2.1 0 = _
  rw [(ctM_ne ow3 _ (fun r hr => by omega)).1]
  show (ctM (mNewO (in1 (mNewO (mM0 L xs) 1 0)) 66 2) 66 ow3).2.2.1 0 = _
  rw [(ctM_ne ow3 _ (fun r hr => by omega)).1]
  show (ctM (mNewO (mNewO (mM0 L xs) 1 0) 65 1) 65 ow2).2.2.1 0 = _
  rw [(ctM_ne ow2 _ (fun r hr => by omega)).1]
  rfl
theorem inZ_c (m : mMem) : (inZ m).2.2.2.2.1 = m.2.2.2.2.1 + 1 + 1 + 1 + 3 + 1 + 3 + 3 ∧ (inZ m).2.2.2.2.2 = m.2.2.2.2.2 + 4 + 240 + 5 + 230 + 5 + 230 + 120 := by
  have e2 : ow2.length = 1 ∧ owSum ow2 = 240 := by decide
  have e3 : ow3.length = 3 ∧ owSum ow3 = 230 := by decide
  have e1 : ow1.length = 3 ∧ owSum ow1 = 120 := by decide
  have a1 := ctM_c (k := 65) ow2 (mNewO m 65 1)
  have a2 := ctM_c (k := 66) ow3 (mNewO (in1 m) 66 2)
  have a3 := ctM_c (k := 67) ow3 (mNewO (in2 m) 67 2)
  have a4 := ctM_c (k := 1) ow1 (in3 m)
  rw [e2.1, e2.2] at a1
  rw [e3.1, e3.2] at a2 a3
  rw [e1.1, e1.2] at a4
  have b1 : (in1 m).2.2.2.2.1 = m.2.2.2.2.1 + 1 + 1 ∧ (in1 m).2.2.2.2.2 = m.2.2.2.2.2 + 4 + 240 := a1
  have b2 : (in2 m).2.2.2.2.1 = (in1 m).2.2.2.2.1 + 1 + 3 ∧ (in2 m).2.2.2.2.2 = (in1 m).2.2.2.2.2 + 5 + 230 := a2
  have b3 : (in3 m).2.2.2.2.1 = (in2 m).2.2.2.2.1 + 1 + 3 ∧ (in3 m).2.2.2.2.2 = (in2 m).2.2.2.2.2 + 5 + 230 := a3
  have b4 : (inZ m).2.2.2.2.1 = (in3 m).2.2.2.2.1 + 3 ∧ (inZ m).2.2.2.2.2 = (in3 m).2.2.2.2.2 + 120 := a4
  omega
theorem st1_c : (st1 L xs).2.2.2.2.1 ≤ 50 ∧ (st1 L xs).2.2.2.2.2 ≤ 5000 := by
  have h := inZ_c (mNewO (mM0 L xs) 1 0)
  have h1 : (mNewO (mM0 L xs) 1 0).2.2.2.2.1 = 1 := rfl
  have h2 : (mNewO (mM0 L xs) 1 0).2.2.2.2.2 = 15 := rfl
  show (inZ (mNewO (mM0 L xs) 1 0)).2.2.2.2.1 ≤ 50 ∧ (inZ (mNewO (mM0 L xs) 1 0)).2.2.2.2.2 ≤ 5000
  omega
theorem ow147_c : 1 + ow147.length ≤ 100 ∧ mNf 8 + owSum ow147 ≤ 50000 := by decide
theorem mM0_n {a : Nat} (h : a ≠ 0) : (mM0 L xs).1 a = none := if_neg h
theorem st1_cl : clS (er (st1 L xs)) := by
  have he : ∀ a, (er (mM0 L xs)).1 a = none := by
    intro a
    unfold er mM0
    dsimp only
    by_cases h : a = 0
    · rw [if_pos h]
    · rw [if_neg h, if_neg h]
  have cl := ini_ok he
  rw [er_newO (by decide), er_inZ] at cl
  exact cl
theorem st1_wt : mWT (st1 L xs) := er_wt st1_cl.1 (fun ci h => by
  rw [st1_0 (by decide) (by decide)] at h
  cases h)
theorem er_1 {m : mMem} {a : Nat} (h : a ≠ 0) : (er m).1 a = m.1 a := if_neg h
set_option maxRecDepth 20000 in
theorem st_gI : gI L xs 0 (st3 L xs) := by
  obtain ⟨-, o1, f0, f1, f2, i6, i7, i8, fn, s65, i65, n66, n67, i660, i661, z66, z1, no⟩ := st1_cl (L := L) (xs := xs)
  rw [er_1 (by decide)] at o1 s65 n66 n67
  have hT1 := st1_wt (L := L) (xs := xs)
  obtain ⟨R, p1, p2⟩ := made (c := 2) (ci := 8) (l := ow147) hT1 ok147 (by decide) (fun a ha => by
    have h2 : a = 2 ∨ (129 ≤ a ∧ a ≤ 191) := by unfold gwN at ha; omega
    rw [st1_0 (by omega) (by omega)]
    exact mM0_n (by omega))
  have hin := ctM_in (k := 2) ow147 (mNewO (st1 L xs) 2 8) ok147.1 ok147.2.1
  have hT2 : mWT (st2 L xs) := R.wt
  have n0 : (st2 L xs).1 0 = some (.inl (.int, L)) := by
    rw [R.ty (by unfold gwN; omega), st1_0 (by decide) (by decide)]
    rfl
  have y3 : (st2 L xs).1 3 = none := by
    rw [R.ty (by unfold gwN; omega), st1_0 (by decide) (by decide)]
    exact mM0_n (by decide)
  have t33 : (st3 L xs).1 3 = some (.inl (.long, 1)) := mRow_eq (f := (st2 L xs).1) (k := 3)
  have ne : ∀ a, a ≠ 3 → (st3 L xs).1 a = (st2 L xs).1 a := fun a h => mRow_ne h
  have ni : ∀ a, a ≠ 3 → (st3 L xs).2.2.1 a = (st2 L xs).2.2.1 a := fun a h => mRow_ne h
  have hT3 : mWT (st3 L xs) := by
    intro k ci hk
    by_cases k3 : k = 3
    · rw [k3] at hk
      have h3 : (st3 L xs).1 3 = some (.inl (.long, 1)) := t33
      rw [h3] at hk
      cases hk
    · rw [ne k k3] at hk
      have k0 : k ≠ 0 := fun e => by
        rw [e, n0] at hk
        cases hk
      obtain ⟨h1, h2⟩ := hT2 k ci hk
      refine ⟨fun r hr => ?_, h2⟩
      obtain ⟨q1, q2⟩ := h1 r hr
      exact ⟨q1, by rw [ne _ (by omega)]; exact q2⟩
  have G3 : gFr (fun _ _ => False) (fun a => gwN 2 a ∨ a = 3) 1 1 (st2 L xs) (st3 L xs) := ⟨hT3, fun a h => ne a (fun e => h (Or.inr e)), fun _ _ _ _ => rfl, fun a h => ni a (fun e => h (Or.inr e)), fun a h => mRow_ne (fun e => h (Or.inr e)), Nat.le_refl _, Nat.le_refl _⟩
  have G : gFr (fun _ _ => False) (fun a => gwN 2 a ∨ a = 3) 101 50001 (st1 L xs) (st3 L xs) := ((R.mono (fun _ _ z => z) (fun _ z => Or.inl z) ow147_c.1 ow147_c.2).tr G3).mono (fun _ _ z => z) (fun _ z => z) (by omega) (by omega)
  have nn : ∀ a, a = 1 ∨ a = 0 ∨ (65 ≤ a ∧ a ≤ 127) ∨ 192 ≤ a → ¬ (gwN 2 a ∨ a = 3) := fun a h z => by unfold gwN at z; omega
  have c1 := st1_c (L := L) (xs := xs)
  have g1 := G.2.2.2.2.2.1
  have g2 := G.2.2.2.2.2.2
  have nul : ∀ s, 7 ≤ s → s ≤ 12 → (st3 L xs).2.1 1 (s + 2) = .null ∧ ∀ a, gwN (64 * 1 + s) a → (st3 L xs).1 a = none := by
    intro s h1 h2
    refine ⟨?_, fun a ha => ?_⟩
    · rw [G.fl (nn 1 (by omega)) id]
      exact fn (s + 2) (by omega) (by omega)
    · have h3 : (71 ≤ a ∧ a ≤ 76) ∨ 4545 ≤ a := by unfold gwN at ha; omega
      rw [G.ty (nn a (by omega)), st1_0 (by omega) (by omega)]
      exact mM0_n (by omega)
  have fz : ∀ f, (∀ r ∈ ow147, f ≠ r.1) → mDef 8 f = .int 0 → iF (st3 L xs) 2 f = 0 := by
    intro f h1 h2
    have h3 : (st2 L xs).2.1 2 f = mDef 8 f := p2 f h1
    have h4 : iF (st2 L xs) 2 f = 0 := iF_of (h3.trans h2)
    exact h4
  have m2 : (st3 L xs).1 2 = some (.inr 8) := by rw [ne 2 (by decide)]; exact p1
  refine ⟨66, 67, 0, 0, fun _ _ => 0, fun _ _ => 0, fun _ => 0, (fun _ => 0, fun _ => 0, fun _ _ => 0, 0), fun _ => 0, 0, 0, 0, ⟨hT3, ⟨?_, ?_, t33⟩, by omega, by omega, ⟨Or.inl ⟨rfl, rfl⟩, ?_, ?_, ?_, ?_, ?_, ?_, ?_⟩, ⟨Or.inl (nul 7 (by omega) (by omega)), Or.inl (nul 8 (by omega) (by omega)), ⟨Or.inl (nul 9 (by omega) (by omega)), Or.inl (nul 10 (by omega) (by omega))⟩, Or.inl (nul 11 (by omega) (by omega)), Or.inl (nul 12 (by omega) (by omega))⟩⟩, ⟨?_, ?_, Or.inl ?_, Or.inl ?_, ?_, Or.inl ?_⟩, Nat.le_refl _, Nat.le_refl _, fun h => absurd h (Nat.lt_irrefl _), fun h => absurd h (Nat.lt_irrefl _)⟩
  · rw [G.ty (nn 0 (by omega)), st1_0 (by decide) (by decide)]; rfl
  · rw [G.i (nn 0 (by omega))]; exact st1_i
  · refine ⟨⟨by rw [G.ty (nn 1 (by omega))]; exact o1, by decide⟩, by rw [G.fl (nn 1 (by omega)) id]; exact f1, ⟨⟨by rw [G.ty (nn 66 (by omega))]; exact n66, by decide⟩, by rw [G.nf (nn 66 (by omega)) id]; exact i660, by rw [G.nf (nn 66 (by omega)) id]; exact i661, fun t _ p _ => ?_, fun t _ p _ => ?_, fun p _ => ?_⟩, ⟨by decide, by decide, fun _ _ => Nat.zero_le _, fun _ _ => Nat.zero_le _, fun _ => Nat.zero_le _, fun _ _ _ => ⟨rfl, rfl⟩, fun _ _ => rfl⟩, fun p _ => ?_, fun _ => Nat.zero_le _, fun p _ => ?_, fun _ => Nat.zero_le _, by rw [G.nf (nn 1 (by omega)) id]; exact i6, Nat.zero_le _, fun a ha => absurd ha (Nat.not_lt_zero _), fun _ _ => Nat.zero_le _⟩
    · rw [G.i (nn _ (by omega))]; exact congrFun (z66 2 (by omega) (by omega)) _
    · rw [G.i (nn _ (by omega))]; exact congrFun (z66 3 (by omega) (by omega)) _
    · rw [G.i (nn _ (by omega))]; exact congrFun (z66 1 (by omega) (by omega)) _
    · rw [G.i (nn _ (by omega))]; exact congrFun (z1 4 (by omega) (by omega)) _
    · rw [G.i (nn _ (by omega))]; exact congrFun (z1 5 (by omega) (by omega)) _
  · rw [G.fl (nn 1 (by omega)) id]; exact f0
  · exact ⟨⟨by rw [G.ty (nn 65 (by omega))]; exact s65, by decide⟩, by rw [G.nf (nn 65 (by omega)) id]; exact i65, fun i hi => absurd hi (Nat.not_lt_zero _), Nat.zero_le _, fun _ => Nat.zero_le _⟩
  · rw [G.fl (nn 1 (by omega)) id]; exact f2
  · rw [G.ty (nn 67 (by omega))]; exact n67
  · rw [G.nf (nn 1 (by omega)) id]; exact i7
  · rw [G.nf (nn 1 (by omega)) id]; exact i8
  · refine ⟨⟨m2, by decide⟩, ⟨fz 6 (by decide) rfl, fz 7 (by decide) rfl, fun t _ p _ => ?_, fun t _ p _ => ?_⟩, ⟨by decide, by decide, fun _ _ => Nat.zero_le _, fun _ _ => Nat.zero_le _, fun _ => Nat.zero_le _, fun _ _ _ => ⟨rfl, rfl⟩, fun _ _ => rfl⟩, ?_, fun p _ => ?_, fun _ => Nat.zero_le _, fun p _ => ?_, fun p _ => ?_, fun _ => Nat.zero_le _, fz 20 (by decide) rfl, Nat.zero_le _, fun a ha => absurd ha (Nat.not_lt_zero _), fun _ _ => Nat.zero_le _⟩
    · rw [ni _ (by omega)]; exact congrFun (hin (8, 2, .int, 100) (by decide)).2.2.1 _
    · rw [ni _ (by omega)]; exact congrFun (hin (9, 3, .int, 100) (by decide)).2.2.1 _
    · rw [bz_f (Nat.lt_irrefl _)]; exact fz 18 (by decide) rfl
    · rw [ni _ (by omega)]; exact congrFun (hin (10, 4, .int, 10) (by decide)).2.2.1 _
    · rw [ni _ (by omega)]; exact congrFun (hin (11, 5, .int, 10) (by decide)).2.2.1 _
    · rw [ni _ (by omega)]; exact congrFun (hin (12, 6, .int, 10) (by decide)).2.2.1 _
  · exact ⟨⟨m2, by decide⟩, fz 2 (by decide) rfl, fun i hi => absurd hi (Nat.not_lt_zero _), Nat.zero_le _, fun _ => Nat.zero_le _⟩
  · exact fz 21 (by decide) rfl
  · exact fz 27 (by decide) rfl
  · intro x hx
    refine Or.inl ?_
    rw [ni _ (by omega)]
    exact congrFun (hin (35, 21, .boolean, 2) (by decide)).2.2.1 _
  · exact fz 45 (by decide) rfl
set_option maxRecDepth 20000 in
/-- the law, from its entry -/
theorem l_start (hc : lwC 1000 Lw) (hL : L ≤ 2048) : Lw (0, mEn [.ref 0] 7, [], mM0 L xs) := by
  have e0 : ∀ a, a ≠ 1 → a ≠ 0 → (mNewO (mM0 L xs) 1 0).1 a = none := fun a h1 h2 => by rw [nO_ne h1]; exact mM0_n h2
  have n2 : ∀ a, a = 2 ∨ (129 ≤ a ∧ a ≤ 191) ∨ a = 3 → (st1 L xs).1 a = none := fun a h => by
    rw [st1_0 (by omega) (by omega)]
    exact mM0_n (by omega)
  refine l_w hc (dAt DW0 0 rfl) (Or.inl rfl) ⟨0, _, 1, 1, rfl, rfl, rfl, ⟨mM0_n (by decide), by decide⟩, ?_⟩
  refine l_w hc (dAt DW0 1 rfl) (Or.inl rfl) ⟨rfl, ?_⟩
  refine l_call hc (kind := 1) (cm := 1) (As := [.ref 1]) (rest := [.ref 1]) (dAt DW0 2 rfl) (fun _ => rfl) rfl G1 (by decide) rfl (Nat.le_of_ble_eq_true rfl) rfl ?_
  refine ct1z (by omega) nO_eq e0 ?_
  refine l_w hc (dAt DW0 3 rfl) (Or.inl rfl) ⟨rfl, Nat.lt_of_lt_of_le (by decide : 1 < 7) (Nat.le_refl _), (show Lw (8, [some (.ref 0), some (.ref 1), none, none, none, none, none], [], st1 L xs) from ?_)⟩
  refine l_w hc (dAt DW0 4 rfl) (Or.inl rfl) ⟨8, _, 2, 2, rfl, rfl, rfl, ⟨n2 2 (by omega), by decide⟩, ?_⟩
  refine l_w hc (dAt DW0 5 rfl) (Or.inl rfl) ⟨rfl, ?_⟩
  refine l_call hc (kind := 1) (cm := 147) (As := [.ref 2]) (rest := [.ref 2]) (dAt DW0 6 rfl) (fun _ => rfl) rfl G147 (by decide) rfl (Nat.le_of_ble_eq_true rfl) rfl ?_
  refine ct147 (by omega) ⟨nO_eq, by decide⟩ (fun r hr => by
    have := ok147.2.2.1 r hr
    rw [nO_ne (by omega)]
    exact n2 _ (by omega)) ?_
  refine l_w hc (dAt DW0 7 rfl) (Or.inl rfl) ⟨rfl, Nat.lt_of_lt_of_le (by decide : 2 < 7) (Nat.le_refl _), (show Lw (16, [some (.ref 0), some (.ref 1), some (.ref 2), none, none, none, none], [], st2 L xs) from ?_)⟩
  refine l_w hc (dAt DW0 8 rfl) (Or.inl rfl) ⟨1, rfl, ?_⟩
  refine l_w hc (dAt DW0 9 rfl) (Or.inl rfl) ⟨3, 3, 1, rfl, rfl, rfl, ⟨?_, by decide, by decide, by decide, by decide⟩, (show Lw (19, [some (.ref 0), some (.ref 1), some (.ref 2), none, none, none, none], [.ref 3], st3 L xs) from ?_)⟩
  · show (ctM (mNewO (st1 L xs) 2 8) 2 ow147).1 3 = none
    rw [ctM_1 ow147 _ (fun r hr => by omega), nO_ne (by decide)]
    exact n2 3 (by omega)
  refine l_w hc (dAt DW0 10 rfl) (Or.inl rfl) ⟨rfl, Nat.lt_of_lt_of_le (by decide : 3 < 7) (Nat.le_refl _), (show Lw (20, [some (.ref 0), some (.ref 1), some (.ref 2), some (.ref 3), none, none, none], [], st3 L xs) from ?_)⟩
  refine l_w hc (dAt DW0 11 rfl) (Or.inl rfl) ⟨0, rfl, ?_⟩
  refine l_w hc (dAt DW0 12 rfl) (Or.inl rfl) ⟨rfl, Nat.lt_of_lt_of_le (by decide : 4 < 7) (Nat.le_refl _), (show Lw (23, Lf (4 * 0) none none, [], st3 L xs) from ?_)⟩
  exact l_loop hc hL (L / 4) 0 _ _ _ (by omega) st_gI
end STA
