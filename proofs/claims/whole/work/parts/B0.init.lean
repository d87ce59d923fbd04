/-! The constructor of PlaceNets: by wip/whole/gen_init.py. -/
abbrev g1 : mG := (⟨"PlaceNets", "<init>", "()V"⟩, prog_1_method_1_code, 1, none, 1, 1, 0, true)
theorem G1 : mGm[1]? = some g1 := rfl
def tb1 : List (Nat × Instr × Nat) := [(0, .aload_n 0, 1), (1, .invokespecial 1, 3), (4, .aload_n 0, 1), (5, .new 7, 3), (8, .dup, 1), (9, .invokespecial 9, 3), (12, .putfield 10, 3), (15, .aload_n 0, 1), (16, .new 16, 3), (19, .dup, 1), (20, .invokespecial 18, 3), (23, .putfield 19, 3), (26, .aload_n 0, 1), (27, .new 16, 3), (30, .dup, 1), (31, .invokespecial 18, 3), (34, .putfield 23, 3), (37, .aload_n 0, 1), (38, .bipush (10), 2), (40, .newarray .int, 2), (42, .putfield 26, 3), (45, .aload_n 0, 1), (46, .bipush (10), 2), (48, .newarray .int, 2), (50, .putfield 30, 3), (53, .aload_n 0, 1), (54, .bipush (100), 2), (56, .newarray .int, 2), (58, .putfield 33, 3), (61, .return_, 1)]
set_option maxRecDepth 20000 in
theorem D1 : tb1.all (dOk prog_1_method_1_code) = true := by decide +kernel
theorem nO_eq {m : mMem} {k ci : Nat} : (mNewO m k ci).1 k = some (.inr ci) := mRow_eq
theorem nO_ne {m : mMem} {k ci a : Nat} (h : a ≠ k) : (mNewO m k ci).1 a = m.1 a := mRow_ne h
def in1 (m : mMem) : mMem := mSetF (ctM (mNewO m 65 1) 65 ow2) 1 0 (.ref 65)
theorem in1_1 {m : mMem} {a : Nat} (h : a < 65 ∨ (65 < a ∧ a ≤ 4160) ∨ 4352 ≤ a) : (in1 m).1 a = m.1 a := by
  show (ctM (mNewO m 65 1) 65 ow2).1 a = _
  rw [ctM_1 ow2 _ (fun r hr => by have := ok2.2.2.1 r hr; omega)]
  exact nO_ne (by omega)
theorem in1_c {m : mMem} : (in1 m).1 65 = some (.inr 1) := by
  show (ctM (mNewO m 65 1) 65 ow2).1 65 = _
  rw [ctM_1 ow2 _ (fun r hr => by omega)]
  exact nO_eq
def in2 (m : mMem) : mMem := mSetF (ctM (mNewO (in1 m) 66 2) 66 ow3) 1 1 (.ref 66)
theorem in2_1 {m : mMem} {a : Nat} (h : a < 66 ∨ (66 < a ∧ a ≤ 4160) ∨ 4352 ≤ a) : (in2 m).1 a = (in1 m).1 a := by
  show (ctM (mNewO (in1 m) 66 2) 66 ow3).1 a = _
  rw [ctM_1 ow3 _ (fun r hr => by have := ok3.2.2.1 r hr; omega)]
  exact nO_ne (by omega)
theorem in2_c {m : mMem} : (in2 m).1 66 = some (.inr 2) := by
  show (ctM (mNewO (in1 m) 66 2) 66 ow3).1 66 = _
  rw [ctM_1 ow3 _ (fun r hr => by omega)]
  exact nO_eq
def in3 (m : mMem) : mMem := mSetF (ctM (mNewO (in2 m) 67 2) 67 ow3) 1 2 (.ref 67)
theorem in3_1 {m : mMem} {a : Nat} (h : a < 67 ∨ (67 < a ∧ a ≤ 4160) ∨ 4352 ≤ a) : (in3 m).1 a = (in2 m).1 a := by
  show (ctM (mNewO (in2 m) 67 2) 67 ow3).1 a = _
  rw [ctM_1 ow3 _ (fun r hr => by have := ok3.2.2.1 r hr; omega)]
  exact nO_ne (by omega)
theorem in3_c {m : mMem} : (in3 m).1 67 = some (.inr 2) := by
  show (ctM (mNewO (in2 m) 67 2) 67 ow3).1 67 = _
  rw [ctM_1 ow3 _ (fun r hr => by omega)]
  exact nO_eq
def ow1 : List (Nat × Nat × FieldType × Nat) := [(3, 4, .int, 10), (4, 5, .int, 10), (5, 6, .int, 100)]
def inZ (m : mMem) : mMem := ctM (in3 m) 1 ow1
set_option maxRecDepth 20000 in
theorem ct1 {d : Nat} {m : mMem} {Q : Option Value → mMem → Prop} (hd : 4 ≤ d) (o0 : m.1 1 = some (.inr 0)) (h0 : ∀ a, a ≠ 1 → m.1 a = none) (hQ : Q none (inZ m)) : mEv d 1 [.ref 1] m Q := by
  have n0 : ∀ a, a ≠ 1 → (64 < a ∧ a ≤ 4160) ∨ 4160 ≤ a → m.1 a = none := fun a h _ => h0 a h
  refine mEv.at (by omega) G1 (Nat.le_of_ble_eq_true rfl) ?_
  refine e_aload_n (pc' := 1) (dAt D1 0 rfl) rfl rfl ?_
  refine e_objInit (pc' := 4) (dAt D1 1 rfl) rfl rfl ⟨by omega, Nat.le_of_ble_eq_true rfl⟩ ?_
  refine e_aload_n (pc' := 5) (dAt D1 2 rfl) rfl rfl ?_
  refine e_new (pc' := 8) (x := 65) (dAt D1 3 rfl) rfl rfl rfl rfl ⟨n0 65 (by omega) (by omega), by omega⟩ ?_
  refine e_dup (pc' := 9) (dAt D1 4 rfl) rfl rfl ?_
  have hN0 : (mNewO m 65 1).1 65 = some (.inr 1) ∧ 65 ≠ 0 := ⟨nO_eq, by omega⟩
  refine e_call2 (As := [.ref 65]) (rest := [.ref 65, .ref 1]) (ct2 (by omega) hN0 (fun r hr => by have := ok2.2.2.1 r hr; rw [nO_ne (by omega)]; exact n0 _ (by omega) (by omega)) ?_) (dAt D1 5 rfl) (hi1 rfl) rfl G2 (by decide) rfl (Nat.le_of_ble_eq_true rfl) rfl rfl rfl
  have hX0 : (ctM (mNewO m 65 1) 65 ow2).1 1 = some (.inr 0) ∧ 1 ≠ 0 := ⟨by rw [ctM_1 ow2 _ (fun r _ => by omega)]; rw [nO_ne (by omega)]; exact o0, by omega⟩
  refine e_putfield (pc' := 15) (dAt D1 6 rfl) rfl rfl hX0 rfl rfl (fun _ => ⟨rfl, rfl⟩) ?_
  have o1 : (in1 m).1 1 = some (.inr 0) := by rw [in1_1 (by omega)]; exact o0
  have n1 : ∀ a, a ≠ 1 → (65 < a ∧ a ≤ 4160) ∨ 4224 ≤ a → (in1 m).1 a = none := by
    intro a h1 h2
    show (ctM (mNewO m 65 1) 65 ow2).1 a = none
    rw [ctM_1 ow2 _ (fun r hr => by have := ok2.2.2.1 r hr; omega)]
    rw [nO_ne (by omega)]
    exact n0 a h1 (by omega)
  show mEs (d - 1) 1 1 g1 (15, [some (.ref 1)], [], in1 m) Q
  refine e_aload_n (pc' := 16) (dAt D1 7 rfl) rfl rfl ?_
  refine e_new (pc' := 19) (x := 66) (dAt D1 8 rfl) rfl rfl rfl rfl ⟨n1 66 (by omega) (by omega), by omega⟩ ?_
  refine e_dup (pc' := 20) (dAt D1 9 rfl) rfl rfl ?_
  have hN1 : (mNewO (in1 m) 66 2).1 66 = some (.inr 2) ∧ 66 ≠ 0 := ⟨nO_eq, by omega⟩
  refine e_call2 (As := [.ref 66]) (rest := [.ref 66, .ref 1]) (ct3 (by omega) hN1 (fun r hr => by have := ok3.2.2.1 r hr; rw [nO_ne (by omega)]; exact n1 _ (by omega) (by omega)) ?_) (dAt D1 10 rfl) (hi1 rfl) rfl G3 (by decide) rfl (Nat.le_of_ble_eq_true rfl) rfl rfl rfl
  have hX1 : (ctM (mNewO (in1 m) 66 2) 66 ow3).1 1 = some (.inr 0) ∧ 1 ≠ 0 := ⟨by rw [ctM_1 ow3 _ (fun r _ => by omega)]; rw [nO_ne (by omega)]; exact o1, by omega⟩
  refine e_putfield (pc' := 26) (dAt D1 11 rfl) rfl rfl hX1 rfl rfl (fun _ => ⟨rfl, rfl⟩) ?_
  have o2 : (in2 m).1 1 = some (.inr 0) := by rw [in2_1 (by omega)]; exact o1
  have n2 : ∀ a, a ≠ 1 → (66 < a ∧ a ≤ 4160) ∨ 4288 ≤ a → (in2 m).1 a = none := by
    intro a h1 h2
    show (ctM (mNewO (in1 m) 66 2) 66 ow3).1 a = none
    rw [ctM_1 ow3 _ (fun r hr => by have := ok3.2.2.1 r hr; omega)]
    rw [nO_ne (by omega)]
    exact n1 a h1 (by omega)
  show mEs (d - 1) 1 1 g1 (26, [some (.ref 1)], [], in2 m) Q
  refine e_aload_n (pc' := 27) (dAt D1 12 rfl) rfl rfl ?_
  refine e_new (pc' := 30) (x := 67) (dAt D1 13 rfl) rfl rfl rfl rfl ⟨n2 67 (by omega) (by omega), by omega⟩ ?_
  refine e_dup (pc' := 31) (dAt D1 14 rfl) rfl rfl ?_
  have hN2 : (mNewO (in2 m) 67 2).1 67 = some (.inr 2) ∧ 67 ≠ 0 := ⟨nO_eq, by omega⟩
  refine e_call2 (As := [.ref 67]) (rest := [.ref 67, .ref 1]) (ct3 (by omega) hN2 (fun r hr => by have := ok3.2.2.1 r hr; rw [nO_ne (by omega)]; exact n2 _ (by omega) (by omega)) ?_) (dAt D1 15 rfl) (hi1 rfl) rfl G3 (by decide) rfl (Nat.le_of_ble_eq_true rfl) rfl rfl rfl
  have hX2 : (ctM (mNewO (in2 m) 67 2) 67 ow3).1 1 = some (.inr 0) ∧ 1 ≠ 0 := ⟨by rw [ctM_1 ow3 _ (fun r _ => by omega)]; rw [nO_ne (by omega)]; exact o2, by omega⟩
  refine e_putfield (pc' := 37) (dAt D1 16 rfl) rfl rfl hX2 rfl rfl (fun _ => ⟨rfl, rfl⟩) ?_
  have o3 : (in3 m).1 1 = some (.inr 0) := by rw [in3_1 (by omega)]; exact o2
  have n3 : ∀ a, a ≠ 1 → (67 < a ∧ a ≤ 4160) ∨ 4352 ≤ a → (in3 m).1 a = none := by
    intro a h1 h2
    show (ctM (mNewO (in2 m) 67 2) 67 ow3).1 a = none
    rw [ctM_1 ow3 _ (fun r hr => by have := ok3.2.2.1 r hr; omega)]
    rw [nO_ne (by omega)]
    exact n2 a h1 (by omega)
  show mEs (d - 1) 1 1 g1 (37, [some (.ref 1)], [], in3 m) Q
  rw [show in3 m = ctM (in3 m) 1 [] from rfl]
  refine ct_one (r := (3, 4, .int, 10)) (z := 10) (pc2 := 38) (pc3 := 40) (pc4 := 42) (pc5 := 45) (dAt D1 17 rfl) rfl rfl (fun S m K => e_bipush (pc' := 40) (v := 10) (dAt D1 18 rfl) rfl (by decide) K) (dAt D1 19 rfl) rfl rfl rfl ⟨by decide, by decide, by decide⟩ (by decide) (dAt D1 20 rfl) rfl rfl ⟨o3, by omega⟩ (fun x => rfl) (fun x => rfl) (fun _ => ⟨rfl, rfl⟩) (by decide) (by decide) (n3 _ (by decide) (by decide)) ?_
  refine ct_one (r := (4, 5, .int, 10)) (z := 10) (pc2 := 46) (pc3 := 48) (pc4 := 50) (pc5 := 53) (dAt D1 21 rfl) rfl rfl (fun S m K => e_bipush (pc' := 48) (v := 10) (dAt D1 22 rfl) rfl (by decide) K) (dAt D1 23 rfl) rfl rfl rfl ⟨by decide, by decide, by decide⟩ (by decide) (dAt D1 24 rfl) rfl rfl ⟨o3, by omega⟩ (fun x => rfl) (fun x => rfl) (fun _ => ⟨rfl, rfl⟩) (by decide) (by decide) (n3 _ (by decide) (by decide)) ?_
  refine ct_one (r := (5, 6, .int, 100)) (z := 100) (pc2 := 54) (pc3 := 56) (pc4 := 58) (pc5 := 61) (dAt D1 25 rfl) rfl rfl (fun S m K => e_bipush (pc' := 56) (v := 100) (dAt D1 26 rfl) rfl (by decide) K) (dAt D1 27 rfl) rfl rfl rfl ⟨by decide, by decide, by decide⟩ (by decide) (dAt D1 28 rfl) rfl rfl ⟨o3, by omega⟩ (fun x => rfl) (fun x => rfl) (fun _ => ⟨rfl, rfl⟩) (by decide) (by decide) (n3 _ (by decide) (by decide)) ?_
  exact e_return (dAt D1 29 rfl) rfl hQ
