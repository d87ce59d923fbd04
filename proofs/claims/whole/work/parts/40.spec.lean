/-! First contracts of methods, in plain words. -/
/-- whether transition t can fire by a row: over the first P places -/
def rdyP (row tk pt : Nat → Int32) (t p : Nat) : Prop := ¬ (row p - tk (t * 10 + p) < 0) ∧ row p - tk (t * 10 + p) + pt (t * 10 + p) ≤ 99
def rdy (P : Nat) (row tk pt : Nat → Int32) (t : Nat) : Prop := ∀ p, p < P → rdyP row tk pt t p
theorem ev_hasPlace {d n : Nat} {m : mMem} {P : Nat} (hT : mWT m) (hO : m.1 n = some (.inr 2) ∧ n ≠ 0) (hP : iF m n 0 = nI P) (p : Int32) : mEv (d + 1) 19 [.ref n, .int p] m (fun v m' => m' = m ∧ ((v = some (.int 1) ∧ ¬ p < 0 ∧ p < nI P) ∨ (v = some (.int 0) ∧ ¬ (¬ p < 0 ∧ p < nI P)))) := by
  refine mEv.of G19 (Nat.le_of_ble_eq_true rfl) ?_
  refine bk19_0 hT hO ⟨fun c => ⟨rfl, Or.inr ⟨rfl, fun q => q.1 c⟩⟩, fun c => ⟨fun e => ⟨rfl, Or.inr ⟨rfl, fun q => ?_⟩⟩, fun e => ⟨rfl, Or.inl ⟨rfl, c, ?_⟩⟩⟩⟩
  · rw [hP] at e
    exact absurd q.2 (Int32.not_lt.mpr e)
  · rw [hP] at e
    exact Int32.not_le.mp e
theorem ev_isReady {d n r lr : Nat} {m : mMem} {P : Nat} (hT : mWT m) (hO : m.1 n = some (.inr 2) ∧ n ≠ 0) (hA : m.1 r = some (.inl (.int, lr)) ∧ r ≠ 0) (hP : iF m n 0 = nI P) (hP9 : P ≤ 10) (hlr : 10 ≤ lr) (t : Nat) (ht : t < 10) : mEv (d + 1) 23 [.ref n, .ref r, .int (nI t)] m (fun v m' => m' = m ∧ ((v = some (.int 1) ∧ rdy P (m.2.2.1 r) (m.2.2.1 (64 * n + 2)) (m.2.2.1 (64 * n + 3)) t) ∨ (v = some (.int 0) ∧ ¬ rdy P (m.2.2.1 r) (m.2.2.1 (64 * n + 2)) (m.2.2.1 (64 * n + 3)) t))) := by
  refine mEv.of G23 (Nat.le_of_ble_eq_true rfl) ?_
  refine bk23_0 hT hO hA ?_
  have loop : ∀ (k p : Nat) (o : Option Value), p + k = P → (∀ q, q < p → rdyP (m.2.2.1 r) (m.2.2.1 (64 * n + 2)) (m.2.2.1 (64 * n + 3)) t q) → mEs d 23 n g23 (2, [some (.ref n), some (.ref r), some (.int (nI t)), some (.int (nI p)), o], [], m) (fun v m' => m' = m ∧ ((v = some (.int 1) ∧ rdy P (m.2.2.1 r) (m.2.2.1 (64 * n + 2)) (m.2.2.1 (64 * n + 3)) t) ∨ (v = some (.int 0) ∧ ¬ rdy P (m.2.2.1 r) (m.2.2.1 (64 * n + 2)) (m.2.2.1 (64 * n + 3)) t))) := by
    intro k
    induction k with
    | zero =>
      intro p o hp hq
      refine bk23_2 hT hO hA ⟨fun _ => ⟨rfl, Or.inl ⟨rfl, fun q hq' => hq q (by omega)⟩⟩, fun c => absurd ?_ c⟩
      rw [hP, nIle (by omega) (by omega)]
      omega
    | succ k ih =>
      intro p o hp hq
      have e1 : nI t * 10 + nI p = nI (t * 10 + p) := by rw [show (10 : Int32) = nI 10 from rfl, nI_mul, nI_add]
      refine bk23_2 hT hO hA ⟨fun c => absurd c ?_, fun _ => ⟨nIin (by omega) (by omega), ?_⟩⟩
      · rw [hP, nIle (by omega) (by omega)]
        omega
      · rw [e1, nI_clamp (by omega), nI_clamp (by omega)]
        refine ⟨nIin (by omega) (by omega), ?_⟩
        rintro v rfl
        refine ⟨fun c => ⟨rfl, Or.inr ⟨rfl, fun q => (q p (by omega)).1 c⟩⟩, fun c => ⟨nIin (by omega) (by omega), fun c2 => ?_, fun c2 => ⟨rfl, Or.inr ⟨rfl, fun q => c2 (q p (by omega)).2⟩⟩⟩⟩
        rintro v2 rfl
        rw [nI_1]
        refine ih (p + 1) _ (by omega) (fun q hq' => ?_)
        by_cases e : q = p
        · rw [e]; exact ⟨c, c2⟩
        · exact hq q (by omega)
  exact loop P 0 none (by omega) (fun q hq => absurd hq (Nat.not_lt_zero _))
