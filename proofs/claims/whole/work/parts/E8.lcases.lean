/-! The law: a theorem for each call. By wip/whole/gen_law.py. -/
section LCASE
variable {d q n : Nat} {Lw : mSt → Prop} {m : mMem} {x5 x6 : Option Value} {xs : Nat → Int32}
theorem lc_0 (hc : lwC d Lw) (hl : m.1 0 = some (.inl (.int, n))) (hn : n ≤ 2048) (hq : 4 * q + 3 < n) (hxs : m.2.2.1 0 = xs) (h1 : m.1 1 = some (.inr 0))
    (k : mEv d 4 [.ref 1, .int (xs (4 * q + 1))] m (fun r m1 => ∃ v, r = some (.int v) ∧ m1.1 0 = some (.inl (.int, n)) ∧ m1.2.2.1 0 = xs ∧ m1.1 2 = some (.inr 8) ∧ mEv d 149 [.ref 2, .int (xs (4 * q + 1))] m1 (fun r2 m2 => r2 = some (.int v) ∧ Lw (23, Lf (4 * q + 4) x5 x6, [], m2)))) : Lw (172, Lf (4 * q) x5 x6, [], m) := by
  refine l_w hc (dAt DW0 25 rfl) (Or.inl rfl) ⟨rfl, ?_⟩
  refine l_arg hc (dAt DW0 26 rfl) (dAt DW0 27 rfl) (dAt DW0 28 rfl) (dAt DW0 29 rfl) (dAt DW0 30 rfl) (j := 1) rfl hl hn (by omega) ?_
  rw [hxs]
  refine l_call hc (kind := 0) (cm := 4) (As := [.ref 1, .int (xs (4 * q + 1))]) (rest := []) (dAt DW0 31 rfl) (fun _ => rfl) rfl G4 (by decide) rfl (Nat.le_of_ble_eq_true rfl) (kok0 h1 (by decide) rfl) ?_
  refine k.imp (fun r m1 ⟨v, e, f0, fx, f2, k2⟩ => ?_)
  subst e
  refine l_w hc (dAt DW0 32 rfl) (Or.inl rfl) ⟨rfl, ?_⟩
  refine l_arg hc (dAt DW0 33 rfl) (dAt DW0 34 rfl) (dAt DW0 35 rfl) (dAt DW0 36 rfl) (dAt DW0 37 rfl) (j := 1) rfl f0 hn (by omega) ?_
  rw [fx]
  refine l_call hc (kind := 0) (cm := 149) (As := [.ref 2, .int (xs (4 * q + 1))]) (rest := [.int v]) (dAt DW0 38 rfl) (fun _ => rfl) rfl G149 (by decide) rfl (Nat.le_of_ble_eq_true rfl) (kok0 f2 (by decide) rfl) ?_
  refine k2.imp (fun r m2 ⟨e, k3⟩ => ?_)
  subst e
  refine l_w hc (dAt DW0 39 rfl) (Or.inl rfl) ⟨1061, rfl, by decide, fun _ => l_next hc k3, fun h => absurd rfl h⟩
theorem lc_1 (hc : lwC d Lw) (hl : m.1 0 = some (.inl (.int, n))) (hn : n ≤ 2048) (hq : 4 * q + 3 < n) (hxs : m.2.2.1 0 = xs) (h1 : m.1 1 = some (.inr 0))
    (k : mEv d 6 [.ref 1, .int (xs (4 * q + 1))] m (fun r m1 => ∃ v, r = some (.int v) ∧ m1.1 0 = some (.inl (.int, n)) ∧ m1.2.2.1 0 = xs ∧ m1.1 2 = some (.inr 8) ∧ mEv d 150 [.ref 2, .int (xs (4 * q + 1))] m1 (fun r2 m2 => r2 = some (.int v) ∧ Lw (23, Lf (4 * q + 4) x5 x6, [], m2)))) : Lw (197, Lf (4 * q) x5 x6, [], m) := by
  refine l_w hc (dAt DW0 42 rfl) (Or.inl rfl) ⟨rfl, ?_⟩
  refine l_arg hc (dAt DW0 43 rfl) (dAt DW0 44 rfl) (dAt DW0 45 rfl) (dAt DW0 46 rfl) (dAt DW0 47 rfl) (j := 1) rfl hl hn (by omega) ?_
  rw [hxs]
  refine l_call hc (kind := 0) (cm := 6) (As := [.ref 1, .int (xs (4 * q + 1))]) (rest := []) (dAt DW0 48 rfl) (fun _ => rfl) rfl G6 (by decide) rfl (Nat.le_of_ble_eq_true rfl) (kok0 h1 (by decide) rfl) ?_
  refine k.imp (fun r m1 ⟨v, e, f0, fx, f2, k2⟩ => ?_)
  subst e
  refine l_w hc (dAt DW0 49 rfl) (Or.inl rfl) ⟨rfl, ?_⟩
  refine l_arg hc (dAt DW0 50 rfl) (dAt DW0 51 rfl) (dAt DW0 52 rfl) (dAt DW0 53 rfl) (dAt DW0 54 rfl) (j := 1) rfl f0 hn (by omega) ?_
  rw [fx]
  refine l_call hc (kind := 0) (cm := 150) (As := [.ref 2, .int (xs (4 * q + 1))]) (rest := [.int v]) (dAt DW0 55 rfl) (fun _ => rfl) rfl G150 (by decide) rfl (Nat.le_of_ble_eq_true rfl) (kok0 f2 (by decide) rfl) ?_
  refine k2.imp (fun r m2 ⟨e, k3⟩ => ?_)
  subst e
  refine l_w hc (dAt DW0 56 rfl) (Or.inl rfl) ⟨1061, rfl, by decide, fun _ => l_next hc k3, fun h => absurd rfl h⟩
theorem lc_2 (hc : lwC d Lw) (hl : m.1 0 = some (.inl (.int, n))) (hn : n ≤ 2048) (hq : 4 * q + 3 < n) (hxs : m.2.2.1 0 = xs) (h1 : m.1 1 = some (.inr 0))
    (k : mEv d 8 [.ref 1] m (fun r m1 => ∃ v, r = some (.int v) ∧ m1.1 0 = some (.inl (.int, n)) ∧ m1.2.2.1 0 = xs ∧ m1.1 2 = some (.inr 8) ∧ mEv d 152 [.ref 2] m1 (fun r2 m2 => r2 = some (.int v) ∧ Lw (23, Lf (4 * q + 4) x5 x6, [], m2)))) : Lw (222, Lf (4 * q) x5 x6, [], m) := by
  refine l_w hc (dAt DW0 59 rfl) (Or.inl rfl) ⟨rfl, ?_⟩
  refine l_call hc (kind := 0) (cm := 8) (As := [.ref 1]) (rest := []) (dAt DW1 0 rfl) (fun _ => rfl) rfl G8 (by decide) rfl (Nat.le_of_ble_eq_true rfl) (kok0 h1 (by decide) rfl) ?_
  refine k.imp (fun r m1 ⟨v, e, f0, fx, f2, k2⟩ => ?_)
  subst e
  refine l_w hc (dAt DW1 1 rfl) (Or.inl rfl) ⟨rfl, ?_⟩
  refine l_call hc (kind := 0) (cm := 152) (As := [.ref 2]) (rest := [.int v]) (dAt DW1 2 rfl) (fun _ => rfl) rfl G152 (by decide) rfl (Nat.le_of_ble_eq_true rfl) (kok0 f2 (by decide) rfl) ?_
  refine k2.imp (fun r m2 ⟨e, k3⟩ => ?_)
  subst e
  refine l_w hc (dAt DW1 3 rfl) (Or.inl rfl) ⟨1061, rfl, by decide, fun _ => l_next hc k3, fun h => absurd rfl h⟩
theorem lc_4 (hc : lwC d Lw) (hl : m.1 0 = some (.inl (.int, n))) (hn : n ≤ 2048) (hq : 4 * q + 3 < n) (hxs : m.2.2.1 0 = xs) (h1 : m.1 1 = some (.inr 0))
    (k : mEv d 18 [.ref 1, .int (xs (4 * q + 1)), .int (xs (4 * q + 2))] m (fun r m1 => ∃ v, r = some (.int v) ∧ m1.1 0 = some (.inl (.int, n)) ∧ m1.2.2.1 0 = xs ∧ m1.1 2 = some (.inr 8) ∧ mEv d 164 [.ref 2, .int (xs (4 * q + 1)), .int (xs (4 * q + 2))] m1 (fun r2 m2 => r2 = some (.int v) ∧ Lw (23, Lf (4 * q + 4) x5 x6, [], m2)))) : Lw (315, Lf (4 * q) x5 x6, [], m) := by
  refine l_w hc (dAt DW2 1 rfl) (Or.inl rfl) ⟨rfl, ?_⟩
  refine l_arg hc (dAt DW2 2 rfl) (dAt DW2 3 rfl) (dAt DW2 4 rfl) (dAt DW2 5 rfl) (dAt DW2 6 rfl) (j := 1) rfl hl hn (by omega) ?_
  refine l_arg hc (dAt DW2 7 rfl) (dAt DW2 8 rfl) (dAt DW2 9 rfl) (dAt DW2 10 rfl) (dAt DW2 11 rfl) (j := 2) rfl hl hn (by omega) ?_
  rw [hxs]
  refine l_call hc (kind := 0) (cm := 18) (As := [.ref 1, .int (xs (4 * q + 1)), .int (xs (4 * q + 2))]) (rest := []) (dAt DW2 12 rfl) (fun _ => rfl) rfl G18 (by decide) rfl (Nat.le_of_ble_eq_true rfl) (kok0 h1 (by decide) rfl) ?_
  refine k.imp (fun r m1 ⟨v, e, f0, fx, f2, k2⟩ => ?_)
  subst e
  refine l_w hc (dAt DW2 13 rfl) (Or.inl rfl) ⟨rfl, ?_⟩
  refine l_arg hc (dAt DW2 14 rfl) (dAt DW2 15 rfl) (dAt DW2 16 rfl) (dAt DW2 17 rfl) (dAt DW2 18 rfl) (j := 1) rfl f0 hn (by omega) ?_
  refine l_arg hc (dAt DW2 19 rfl) (dAt DW2 20 rfl) (dAt DW2 21 rfl) (dAt DW2 22 rfl) (dAt DW2 23 rfl) (j := 2) rfl f0 hn (by omega) ?_
  rw [fx]
  refine l_call hc (kind := 0) (cm := 164) (As := [.ref 2, .int (xs (4 * q + 1)), .int (xs (4 * q + 2))]) (rest := [.int v]) (dAt DW2 24 rfl) (fun _ => rfl) rfl G164 (by decide) rfl (Nat.le_of_ble_eq_true rfl) (kok0 f2 (by decide) rfl) ?_
  refine k2.imp (fun r m2 ⟨e, k3⟩ => ?_)
  subst e
  refine l_w hc (dAt DW2 25 rfl) (Or.inl rfl) ⟨1061, rfl, by decide, fun _ => l_next hc k3, fun h => absurd rfl h⟩
theorem lc_5 (hc : lwC d Lw) (hl : m.1 0 = some (.inl (.int, n))) (hn : n ≤ 2048) (hq : 4 * q + 3 < n) (hxs : m.2.2.1 0 = xs) (h1 : m.1 1 = some (.inr 0))
    (k : mEv d 20 [.ref 1] m (fun r m1 => ∃ v, r = some (.int v) ∧ m1.1 0 = some (.inl (.int, n)) ∧ m1.2.2.1 0 = xs ∧ m1.1 2 = some (.inr 8) ∧ mEv d 165 [.ref 2] m1 (fun r2 m2 => r2 = some (.int v) ∧ Lw (23, Lf (4 * q + 4) x5 x6, [], m2)))) : Lw (352, Lf (4 * q) x5 x6, [], m) := by
  refine l_w hc (dAt DW2 28 rfl) (Or.inl rfl) ⟨rfl, ?_⟩
  refine l_call hc (kind := 0) (cm := 20) (As := [.ref 1]) (rest := []) (dAt DW2 29 rfl) (fun _ => rfl) rfl G20 (by decide) rfl (Nat.le_of_ble_eq_true rfl) (kok0 h1 (by decide) rfl) ?_
  refine k.imp (fun r m1 ⟨v, e, f0, fx, f2, k2⟩ => ?_)
  subst e
  refine l_w hc (dAt DW2 30 rfl) (Or.inl rfl) ⟨rfl, ?_⟩
  refine l_call hc (kind := 0) (cm := 165) (As := [.ref 2]) (rest := [.int v]) (dAt DW2 31 rfl) (fun _ => rfl) rfl G165 (by decide) rfl (Nat.le_of_ble_eq_true rfl) (kok0 f2 (by decide) rfl) ?_
  refine k2.imp (fun r m2 ⟨e, k3⟩ => ?_)
  subst e
  refine l_w hc (dAt DW2 32 rfl) (Or.inl rfl) ⟨1061, rfl, by decide, fun _ => l_next hc k3, fun h => absurd rfl h⟩
theorem lc_6 (hc : lwC d Lw) (hl : m.1 0 = some (.inl (.int, n))) (hn : n ≤ 2048) (hq : 4 * q + 3 < n) (hxs : m.2.2.1 0 = xs) (h1 : m.1 1 = some (.inr 0))
    (k : mEv d 24 [.ref 1, .int (xs (4 * q + 1))] m (fun r m1 => ∃ v, r = some (.int v) ∧ m1.1 0 = some (.inl (.int, n)) ∧ m1.2.2.1 0 = xs ∧ m1.1 2 = some (.inr 8) ∧ mEv d 168 [.ref 2, .int (xs (4 * q + 1))] m1 (fun r2 m2 => r2 = some (.int v) ∧ Lw (23, Lf (4 * q + 4) x5 x6, [], m2)))) : Lw (365, Lf (4 * q) x5 x6, [], m) := by
  refine l_w hc (dAt DW2 35 rfl) (Or.inl rfl) ⟨rfl, ?_⟩
  refine l_arg hc (dAt DW2 36 rfl) (dAt DW2 37 rfl) (dAt DW2 38 rfl) (dAt DW2 39 rfl) (dAt DW2 40 rfl) (j := 1) rfl hl hn (by omega) ?_
  rw [hxs]
  refine l_call hc (kind := 0) (cm := 24) (As := [.ref 1, .int (xs (4 * q + 1))]) (rest := []) (dAt DW2 41 rfl) (fun _ => rfl) rfl G24 (by decide) rfl (Nat.le_of_ble_eq_true rfl) (kok0 h1 (by decide) rfl) ?_
  refine k.imp (fun r m1 ⟨v, e, f0, fx, f2, k2⟩ => ?_)
  subst e
  refine l_w hc (dAt DW2 42 rfl) (Or.inl rfl) ⟨rfl, ?_⟩
  refine l_arg hc (dAt DW2 43 rfl) (dAt DW2 44 rfl) (dAt DW2 45 rfl) (dAt DW2 46 rfl) (dAt DW2 47 rfl) (j := 1) rfl f0 hn (by omega) ?_
  rw [fx]
  refine l_call hc (kind := 0) (cm := 168) (As := [.ref 2, .int (xs (4 * q + 1))]) (rest := [.int v]) (dAt DW2 48 rfl) (fun _ => rfl) rfl G168 (by decide) rfl (Nat.le_of_ble_eq_true rfl) (kok0 f2 (by decide) rfl) ?_
  refine k2.imp (fun r m2 ⟨e, k3⟩ => ?_)
  subst e
  refine l_w hc (dAt DW2 49 rfl) (Or.inl rfl) ⟨1061, rfl, by decide, fun _ => l_next hc k3, fun h => absurd rfl h⟩
theorem lc_7 (hc : lwC d Lw) (hl : m.1 0 = some (.inl (.int, n))) (hn : n ≤ 2048) (hq : 4 * q + 3 < n) (hxs : m.2.2.1 0 = xs) (h1 : m.1 1 = some (.inr 0))
    (k : mEv d 30 [.ref 1, .int (xs (4 * q + 1)), .int (xs (4 * q + 2))] m (fun r m1 => ∃ v, r = some (.int v) ∧ m1.1 0 = some (.inl (.int, n)) ∧ m1.2.2.1 0 = xs ∧ m1.1 2 = some (.inr 8) ∧ mEv d 172 [.ref 2, .int (xs (4 * q + 1)), .int (xs (4 * q + 2))] m1 (fun r2 m2 => r2 = some (.int v) ∧ Lw (23, Lf (4 * q + 4) x5 x6, [], m2)))) : Lw (390, Lf (4 * q) x5 x6, [], m) := by
  refine l_w hc (dAt DW2 52 rfl) (Or.inl rfl) ⟨rfl, ?_⟩
  refine l_arg hc (dAt DW2 53 rfl) (dAt DW2 54 rfl) (dAt DW2 55 rfl) (dAt DW2 56 rfl) (dAt DW2 57 rfl) (j := 1) rfl hl hn (by omega) ?_
  refine l_arg hc (dAt DW2 58 rfl) (dAt DW2 59 rfl) (dAt DW3 0 rfl) (dAt DW3 1 rfl) (dAt DW3 2 rfl) (j := 2) rfl hl hn (by omega) ?_
  rw [hxs]
  refine l_call hc (kind := 0) (cm := 30) (As := [.ref 1, .int (xs (4 * q + 1)), .int (xs (4 * q + 2))]) (rest := []) (dAt DW3 3 rfl) (fun _ => rfl) rfl G30 (by decide) rfl (Nat.le_of_ble_eq_true rfl) (kok0 h1 (by decide) rfl) ?_
  refine k.imp (fun r m1 ⟨v, e, f0, fx, f2, k2⟩ => ?_)
  subst e
  refine l_w hc (dAt DW3 4 rfl) (Or.inl rfl) ⟨rfl, ?_⟩
  refine l_arg hc (dAt DW3 5 rfl) (dAt DW3 6 rfl) (dAt DW3 7 rfl) (dAt DW3 8 rfl) (dAt DW3 9 rfl) (j := 1) rfl f0 hn (by omega) ?_
  refine l_arg hc (dAt DW3 10 rfl) (dAt DW3 11 rfl) (dAt DW3 12 rfl) (dAt DW3 13 rfl) (dAt DW3 14 rfl) (j := 2) rfl f0 hn (by omega) ?_
  rw [fx]
  refine l_call hc (kind := 0) (cm := 172) (As := [.ref 2, .int (xs (4 * q + 1)), .int (xs (4 * q + 2))]) (rest := [.int v]) (dAt DW3 15 rfl) (fun _ => rfl) rfl G172 (by decide) rfl (Nat.le_of_ble_eq_true rfl) (kok0 f2 (by decide) rfl) ?_
  refine k2.imp (fun r m2 ⟨e, k3⟩ => ?_)
  subst e
  refine l_w hc (dAt DW3 16 rfl) (Or.inl rfl) ⟨1061, rfl, by decide, fun _ => l_next hc k3, fun h => absurd rfl h⟩
theorem lc_8 (hc : lwC d Lw) (hl : m.1 0 = some (.inl (.int, n))) (hn : n ≤ 2048) (hq : 4 * q + 3 < n) (hxs : m.2.2.1 0 = xs) (h1 : m.1 1 = some (.inr 0))
    (k : mEv d 32 [.ref 1, .int (xs (4 * q + 1)), .int (xs (4 * q + 2))] m (fun r m1 => ∃ v, r = some (.int v) ∧ m1.1 0 = some (.inl (.int, n)) ∧ m1.2.2.1 0 = xs ∧ m1.1 2 = some (.inr 8) ∧ mEv d 173 [.ref 2, .int (xs (4 * q + 1)), .int (xs (4 * q + 2))] m1 (fun r2 m2 => r2 = some (.int v) ∧ Lw (23, Lf (4 * q + 4) x5 x6, [], m2)))) : Lw (427, Lf (4 * q) x5 x6, [], m) := by
  refine l_w hc (dAt DW3 19 rfl) (Or.inl rfl) ⟨rfl, ?_⟩
  refine l_arg hc (dAt DW3 20 rfl) (dAt DW3 21 rfl) (dAt DW3 22 rfl) (dAt DW3 23 rfl) (dAt DW3 24 rfl) (j := 1) rfl hl hn (by omega) ?_
  refine l_arg hc (dAt DW3 25 rfl) (dAt DW3 26 rfl) (dAt DW3 27 rfl) (dAt DW3 28 rfl) (dAt DW3 29 rfl) (j := 2) rfl hl hn (by omega) ?_
  rw [hxs]
  refine l_call hc (kind := 0) (cm := 32) (As := [.ref 1, .int (xs (4 * q + 1)), .int (xs (4 * q + 2))]) (rest := []) (dAt DW3 30 rfl) (fun _ => rfl) rfl G32 (by decide) rfl (Nat.le_of_ble_eq_true rfl) (kok0 h1 (by decide) rfl) ?_
  refine k.imp (fun r m1 ⟨v, e, f0, fx, f2, k2⟩ => ?_)
  subst e
  refine l_w hc (dAt DW3 31 rfl) (Or.inl rfl) ⟨rfl, ?_⟩
  refine l_arg hc (dAt DW3 32 rfl) (dAt DW3 33 rfl) (dAt DW3 34 rfl) (dAt DW3 35 rfl) (dAt DW3 36 rfl) (j := 1) rfl f0 hn (by omega) ?_
  refine l_arg hc (dAt DW3 37 rfl) (dAt DW3 38 rfl) (dAt DW3 39 rfl) (dAt DW3 40 rfl) (dAt DW3 41 rfl) (j := 2) rfl f0 hn (by omega) ?_
  rw [fx]
  refine l_call hc (kind := 0) (cm := 173) (As := [.ref 2, .int (xs (4 * q + 1)), .int (xs (4 * q + 2))]) (rest := [.int v]) (dAt DW3 42 rfl) (fun _ => rfl) rfl G173 (by decide) rfl (Nat.le_of_ble_eq_true rfl) (kok0 f2 (by decide) rfl) ?_
  refine k2.imp (fun r m2 ⟨e, k3⟩ => ?_)
  subst e
  refine l_w hc (dAt DW3 43 rfl) (Or.inl rfl) ⟨1061, rfl, by decide, fun _ => l_next hc k3, fun h => absurd rfl h⟩
theorem lc_9 (hc : lwC d Lw) (hl : m.1 0 = some (.inl (.int, n))) (hn : n ≤ 2048) (hq : 4 * q + 3 < n) (hxs : m.2.2.1 0 = xs) (h1 : m.1 1 = some (.inr 0))
    (k : mEv d 34 [.ref 1] m (fun r m1 => ∃ v, r = some (.int v) ∧ m1.1 0 = some (.inl (.int, n)) ∧ m1.2.2.1 0 = xs ∧ m1.1 2 = some (.inr 8) ∧ mEv d 175 [.ref 2] m1 (fun r2 m2 => r2 = some (.int v) ∧ Lw (23, Lf (4 * q + 4) x5 x6, [], m2)))) : Lw (464, Lf (4 * q) x5 x6, [], m) := by
  refine l_w hc (dAt DW3 46 rfl) (Or.inl rfl) ⟨rfl, ?_⟩
  refine l_call hc (kind := 0) (cm := 34) (As := [.ref 1]) (rest := []) (dAt DW3 47 rfl) (fun _ => rfl) rfl G34 (by decide) rfl (Nat.le_of_ble_eq_true rfl) (kok0 h1 (by decide) rfl) ?_
  refine k.imp (fun r m1 ⟨v, e, f0, fx, f2, k2⟩ => ?_)
  subst e
  refine l_w hc (dAt DW3 48 rfl) (Or.inl rfl) ⟨rfl, ?_⟩
  refine l_call hc (kind := 0) (cm := 175) (As := [.ref 2]) (rest := [.int v]) (dAt DW3 49 rfl) (fun _ => rfl) rfl G175 (by decide) rfl (Nat.le_of_ble_eq_true rfl) (kok0 f2 (by decide) rfl) ?_
  refine k2.imp (fun r m2 ⟨e, k3⟩ => ?_)
  subst e
  refine l_w hc (dAt DW3 50 rfl) (Or.inl rfl) ⟨1061, rfl, by decide, fun _ => l_next hc k3, fun h => absurd rfl h⟩
theorem lc_10 (hc : lwC d Lw) (hl : m.1 0 = some (.inl (.int, n))) (hn : n ≤ 2048) (hq : 4 * q + 3 < n) (hxs : m.2.2.1 0 = xs) (h1 : m.1 1 = some (.inr 0))
    (k : mEv d 36 [.ref 1] m (fun r m1 => ∃ v, r = some (.int v) ∧ m1.1 0 = some (.inl (.int, n)) ∧ m1.2.2.1 0 = xs ∧ m1.1 2 = some (.inr 8) ∧ mEv d 177 [.ref 2] m1 (fun r2 m2 => r2 = some (.int v) ∧ Lw (23, Lf (4 * q + 4) x5 x6, [], m2)))) : Lw (477, Lf (4 * q) x5 x6, [], m) := by
  refine l_w hc (dAt DW3 53 rfl) (Or.inl rfl) ⟨rfl, ?_⟩
  refine l_call hc (kind := 0) (cm := 36) (As := [.ref 1]) (rest := []) (dAt DW3 54 rfl) (fun _ => rfl) rfl G36 (by decide) rfl (Nat.le_of_ble_eq_true rfl) (kok0 h1 (by decide) rfl) ?_
  refine k.imp (fun r m1 ⟨v, e, f0, fx, f2, k2⟩ => ?_)
  subst e
  refine l_w hc (dAt DW3 55 rfl) (Or.inl rfl) ⟨rfl, ?_⟩
  refine l_call hc (kind := 0) (cm := 177) (As := [.ref 2]) (rest := [.int v]) (dAt DW3 56 rfl) (fun _ => rfl) rfl G177 (by decide) rfl (Nat.le_of_ble_eq_true rfl) (kok0 f2 (by decide) rfl) ?_
  refine k2.imp (fun r m2 ⟨e, k3⟩ => ?_)
  subst e
  refine l_w hc (dAt DW3 57 rfl) (Or.inl rfl) ⟨1061, rfl, by decide, fun _ => l_next hc k3, fun h => absurd rfl h⟩
theorem lc_11 (hc : lwC d Lw) (hl : m.1 0 = some (.inl (.int, n))) (hn : n ≤ 2048) (hq : 4 * q + 3 < n) (hxs : m.2.2.1 0 = xs) (h1 : m.1 1 = some (.inr 0))
    (k : mEv d 37 [.ref 1, .int (xs (4 * q + 1)), .int (xs (4 * q + 2))] m (fun r m1 => ∃ v, r = some (.int v) ∧ m1.1 0 = some (.inl (.int, n)) ∧ m1.2.2.1 0 = xs ∧ m1.1 2 = some (.inr 8) ∧ mEv d 178 [.ref 2, .int (xs (4 * q + 1)), .int (xs (4 * q + 2))] m1 (fun r2 m2 => r2 = some (.int v) ∧ Lw (23, Lf (4 * q + 4) x5 x6, [], m2)))) : Lw (490, Lf (4 * q) x5 x6, [], m) := by
  refine l_w hc (dAt DW4 0 rfl) (Or.inl rfl) ⟨rfl, ?_⟩
  refine l_arg hc (dAt DW4 1 rfl) (dAt DW4 2 rfl) (dAt DW4 3 rfl) (dAt DW4 4 rfl) (dAt DW4 5 rfl) (j := 1) rfl hl hn (by omega) ?_
  refine l_arg hc (dAt DW4 6 rfl) (dAt DW4 7 rfl) (dAt DW4 8 rfl) (dAt DW4 9 rfl) (dAt DW4 10 rfl) (j := 2) rfl hl hn (by omega) ?_
  rw [hxs]
  refine l_call hc (kind := 0) (cm := 37) (As := [.ref 1, .int (xs (4 * q + 1)), .int (xs (4 * q + 2))]) (rest := []) (dAt DW4 11 rfl) (fun _ => rfl) rfl G37 (by decide) rfl (Nat.le_of_ble_eq_true rfl) (kok0 h1 (by decide) rfl) ?_
  refine k.imp (fun r m1 ⟨v, e, f0, fx, f2, k2⟩ => ?_)
  subst e
  refine l_w hc (dAt DW4 12 rfl) (Or.inl rfl) ⟨rfl, ?_⟩
  refine l_arg hc (dAt DW4 13 rfl) (dAt DW4 14 rfl) (dAt DW4 15 rfl) (dAt DW4 16 rfl) (dAt DW4 17 rfl) (j := 1) rfl f0 hn (by omega) ?_
  refine l_arg hc (dAt DW4 18 rfl) (dAt DW4 19 rfl) (dAt DW4 20 rfl) (dAt DW4 21 rfl) (dAt DW4 22 rfl) (j := 2) rfl f0 hn (by omega) ?_
  rw [fx]
  refine l_call hc (kind := 0) (cm := 178) (As := [.ref 2, .int (xs (4 * q + 1)), .int (xs (4 * q + 2))]) (rest := [.int v]) (dAt DW4 23 rfl) (fun _ => rfl) rfl G178 (by decide) rfl (Nat.le_of_ble_eq_true rfl) (kok0 f2 (by decide) rfl) ?_
  refine k2.imp (fun r m2 ⟨e, k3⟩ => ?_)
  subst e
  refine l_w hc (dAt DW4 24 rfl) (Or.inl rfl) ⟨1061, rfl, by decide, fun _ => l_next hc k3, fun h => absurd rfl h⟩
theorem lc_12 (hc : lwC d Lw) (hl : m.1 0 = some (.inl (.int, n))) (hn : n ≤ 2048) (hq : 4 * q + 3 < n) (hxs : m.2.2.1 0 = xs) (h1 : m.1 1 = some (.inr 0))
    (k : mEv d 38 [.ref 1, .int (xs (4 * q + 1)), .int (xs (4 * q + 2))] m (fun r m1 => ∃ v, r = some (.int v) ∧ m1.1 0 = some (.inl (.int, n)) ∧ m1.2.2.1 0 = xs ∧ m1.1 2 = some (.inr 8) ∧ mEv d 179 [.ref 2, .int (xs (4 * q + 1)), .int (xs (4 * q + 2))] m1 (fun r2 m2 => r2 = some (.int v) ∧ Lw (23, Lf (4 * q + 4) x5 x6, [], m2)))) : Lw (527, Lf (4 * q) x5 x6, [], m) := by
  refine l_w hc (dAt DW4 27 rfl) (Or.inl rfl) ⟨rfl, ?_⟩
  refine l_arg hc (dAt DW4 28 rfl) (dAt DW4 29 rfl) (dAt DW4 30 rfl) (dAt DW4 31 rfl) (dAt DW4 32 rfl) (j := 1) rfl hl hn (by omega) ?_
  refine l_arg hc (dAt DW4 33 rfl) (dAt DW4 34 rfl) (dAt DW4 35 rfl) (dAt DW4 36 rfl) (dAt DW4 37 rfl) (j := 2) rfl hl hn (by omega) ?_
  rw [hxs]
  refine l_call hc (kind := 0) (cm := 38) (As := [.ref 1, .int (xs (4 * q + 1)), .int (xs (4 * q + 2))]) (rest := []) (dAt DW4 38 rfl) (fun _ => rfl) rfl G38 (by decide) rfl (Nat.le_of_ble_eq_true rfl) (kok0 h1 (by decide) rfl) ?_
  refine k.imp (fun r m1 ⟨v, e, f0, fx, f2, k2⟩ => ?_)
  subst e
  refine l_w hc (dAt DW4 39 rfl) (Or.inl rfl) ⟨rfl, ?_⟩
  refine l_arg hc (dAt DW4 40 rfl) (dAt DW4 41 rfl) (dAt DW4 42 rfl) (dAt DW4 43 rfl) (dAt DW4 44 rfl) (j := 1) rfl f0 hn (by omega) ?_
  refine l_arg hc (dAt DW4 45 rfl) (dAt DW4 46 rfl) (dAt DW4 47 rfl) (dAt DW4 48 rfl) (dAt DW4 49 rfl) (j := 2) rfl f0 hn (by omega) ?_
  rw [fx]
  refine l_call hc (kind := 0) (cm := 179) (As := [.ref 2, .int (xs (4 * q + 1)), .int (xs (4 * q + 2))]) (rest := [.int v]) (dAt DW4 50 rfl) (fun _ => rfl) rfl G179 (by decide) rfl (Nat.le_of_ble_eq_true rfl) (kok0 f2 (by decide) rfl) ?_
  refine k2.imp (fun r m2 ⟨e, k3⟩ => ?_)
  subst e
  refine l_w hc (dAt DW4 51 rfl) (Or.inl rfl) ⟨1061, rfl, by decide, fun _ => l_next hc k3, fun h => absurd rfl h⟩
theorem lc_13 (hc : lwC d Lw) (hl : m.1 0 = some (.inl (.int, n))) (hn : n ≤ 2048) (hq : 4 * q + 3 < n) (hxs : m.2.2.1 0 = xs) (h1 : m.1 1 = some (.inr 0))
    (k : mEv d 51 [.ref 1, .int (xs (4 * q + 1))] m (fun r m1 => ∃ v, r = some (.int v) ∧ m1.1 0 = some (.inl (.int, n)) ∧ m1.2.2.1 0 = xs ∧ m1.1 2 = some (.inr 8) ∧ mEv d 186 [.ref 2, .int (xs (4 * q + 1))] m1 (fun r2 m2 => r2 = some (.int v) ∧ Lw (23, Lf (4 * q + 4) x5 x6, [], m2)))) : Lw (564, Lf (4 * q) x5 x6, [], m) := by
  refine l_w hc (dAt DW4 54 rfl) (Or.inl rfl) ⟨rfl, ?_⟩
  refine l_arg hc (dAt DW4 55 rfl) (dAt DW4 56 rfl) (dAt DW4 57 rfl) (dAt DW4 58 rfl) (dAt DW4 59 rfl) (j := 1) rfl hl hn (by omega) ?_
  rw [hxs]
  refine l_call hc (kind := 0) (cm := 51) (As := [.ref 1, .int (xs (4 * q + 1))]) (rest := []) (dAt DW5 0 rfl) (fun _ => rfl) rfl G51 (by decide) rfl (Nat.le_of_ble_eq_true rfl) (kok0 h1 (by decide) rfl) ?_
  refine k.imp (fun r m1 ⟨v, e, f0, fx, f2, k2⟩ => ?_)
  subst e
  refine l_w hc (dAt DW5 1 rfl) (Or.inl rfl) ⟨rfl, ?_⟩
  refine l_arg hc (dAt DW5 2 rfl) (dAt DW5 3 rfl) (dAt DW5 4 rfl) (dAt DW5 5 rfl) (dAt DW5 6 rfl) (j := 1) rfl f0 hn (by omega) ?_
  rw [fx]
  refine l_call hc (kind := 0) (cm := 186) (As := [.ref 2, .int (xs (4 * q + 1))]) (rest := [.int v]) (dAt DW5 7 rfl) (fun _ => rfl) rfl G186 (by decide) rfl (Nat.le_of_ble_eq_true rfl) (kok0 f2 (by decide) rfl) ?_
  refine k2.imp (fun r m2 ⟨e, k3⟩ => ?_)
  subst e
  refine l_w hc (dAt DW5 8 rfl) (Or.inl rfl) ⟨1061, rfl, by decide, fun _ => l_next hc k3, fun h => absurd rfl h⟩
theorem lc_14 (hc : lwC d Lw) (hl : m.1 0 = some (.inl (.int, n))) (hn : n ≤ 2048) (hq : 4 * q + 3 < n) (hxs : m.2.2.1 0 = xs) (h1 : m.1 1 = some (.inr 0))
    (k : mEv d 53 [.ref 1, .int (xs (4 * q + 1))] m (fun r m1 => ∃ v, r = some (.int v) ∧ m1.1 0 = some (.inl (.int, n)) ∧ m1.2.2.1 0 = xs ∧ m1.1 2 = some (.inr 8) ∧ mEv d 187 [.ref 2, .int (xs (4 * q + 1))] m1 (fun r2 m2 => r2 = some (.int v) ∧ Lw (23, Lf (4 * q + 4) x5 x6, [], m2)))) : Lw (589, Lf (4 * q) x5 x6, [], m) := by
  refine l_w hc (dAt DW5 11 rfl) (Or.inl rfl) ⟨rfl, ?_⟩
  refine l_arg hc (dAt DW5 12 rfl) (dAt DW5 13 rfl) (dAt DW5 14 rfl) (dAt DW5 15 rfl) (dAt DW5 16 rfl) (j := 1) rfl hl hn (by omega) ?_
  rw [hxs]
  refine l_call hc (kind := 0) (cm := 53) (As := [.ref 1, .int (xs (4 * q + 1))]) (rest := []) (dAt DW5 17 rfl) (fun _ => rfl) rfl G53 (by decide) rfl (Nat.le_of_ble_eq_true rfl) (kok0 h1 (by decide) rfl) ?_
  refine k.imp (fun r m1 ⟨v, e, f0, fx, f2, k2⟩ => ?_)
  subst e
  refine l_w hc (dAt DW5 18 rfl) (Or.inl rfl) ⟨rfl, ?_⟩
  refine l_arg hc (dAt DW5 19 rfl) (dAt DW5 20 rfl) (dAt DW5 21 rfl) (dAt DW5 22 rfl) (dAt DW5 23 rfl) (j := 1) rfl f0 hn (by omega) ?_
  rw [fx]
  refine l_call hc (kind := 0) (cm := 187) (As := [.ref 2, .int (xs (4 * q + 1))]) (rest := [.int v]) (dAt DW5 24 rfl) (fun _ => rfl) rfl G187 (by decide) rfl (Nat.le_of_ble_eq_true rfl) (kok0 f2 (by decide) rfl) ?_
  refine k2.imp (fun r m2 ⟨e, k3⟩ => ?_)
  subst e
  refine l_w hc (dAt DW5 25 rfl) (Or.inl rfl) ⟨1061, rfl, by decide, fun _ => l_next hc k3, fun h => absurd rfl h⟩
theorem lc_15 (hc : lwC d Lw) (hl : m.1 0 = some (.inl (.int, n))) (hn : n ≤ 2048) (hq : 4 * q + 3 < n) (hxs : m.2.2.1 0 = xs) (h1 : m.1 1 = some (.inr 0))
    (k : mEv d 57 [.ref 1, .int (xs (4 * q + 1)), .int (xs (4 * q + 2))] m (fun r m1 => ∃ v, r = some (.int v) ∧ m1.1 0 = some (.inl (.int, n)) ∧ m1.2.2.1 0 = xs ∧ m1.1 2 = some (.inr 8) ∧ mEv d 189 [.ref 2, .int (xs (4 * q + 1)), .int (xs (4 * q + 2))] m1 (fun r2 m2 => r2 = some (.int v) ∧ Lw (23, Lf (4 * q + 4) x5 x6, [], m2)))) : Lw (614, Lf (4 * q) x5 x6, [], m) := by
  refine l_w hc (dAt DW5 28 rfl) (Or.inl rfl) ⟨rfl, ?_⟩
  refine l_arg hc (dAt DW5 29 rfl) (dAt DW5 30 rfl) (dAt DW5 31 rfl) (dAt DW5 32 rfl) (dAt DW5 33 rfl) (j := 1) rfl hl hn (by omega) ?_
  refine l_arg hc (dAt DW5 34 rfl) (dAt DW5 35 rfl) (dAt DW5 36 rfl) (dAt DW5 37 rfl) (dAt DW5 38 rfl) (j := 2) rfl hl hn (by omega) ?_
  rw [hxs]
  refine l_call hc (kind := 0) (cm := 57) (As := [.ref 1, .int (xs (4 * q + 1)), .int (xs (4 * q + 2))]) (rest := []) (dAt DW5 39 rfl) (fun _ => rfl) rfl G57 (by decide) rfl (Nat.le_of_ble_eq_true rfl) (kok0 h1 (by decide) rfl) ?_
  refine k.imp (fun r m1 ⟨v, e, f0, fx, f2, k2⟩ => ?_)
  subst e
  refine l_w hc (dAt DW5 40 rfl) (Or.inl rfl) ⟨rfl, ?_⟩
  refine l_arg hc (dAt DW5 41 rfl) (dAt DW5 42 rfl) (dAt DW5 43 rfl) (dAt DW5 44 rfl) (dAt DW5 45 rfl) (j := 1) rfl f0 hn (by omega) ?_
  refine l_arg hc (dAt DW5 46 rfl) (dAt DW5 47 rfl) (dAt DW5 48 rfl) (dAt DW5 49 rfl) (dAt DW5 50 rfl) (j := 2) rfl f0 hn (by omega) ?_
  rw [fx]
  refine l_call hc (kind := 0) (cm := 189) (As := [.ref 2, .int (xs (4 * q + 1)), .int (xs (4 * q + 2))]) (rest := [.int v]) (dAt DW5 51 rfl) (fun _ => rfl) rfl G189 (by decide) rfl (Nat.le_of_ble_eq_true rfl) (kok0 f2 (by decide) rfl) ?_
  refine k2.imp (fun r m2 ⟨e, k3⟩ => ?_)
  subst e
  refine l_w hc (dAt DW5 52 rfl) (Or.inl rfl) ⟨1061, rfl, by decide, fun _ => l_next hc k3, fun h => absurd rfl h⟩
theorem lc_16 (hc : lwC d Lw) (hl : m.1 0 = some (.inl (.int, n))) (hn : n ≤ 2048) (hq : 4 * q + 3 < n) (hxs : m.2.2.1 0 = xs) (h1 : m.1 1 = some (.inr 0))
    (k : mEv d 69 [.ref 1, .int (xs (4 * q + 1))] m (fun r m1 => ∃ v, r = some (.int v) ∧ m1.1 0 = some (.inl (.int, n)) ∧ m1.2.2.1 0 = xs ∧ m1.1 2 = some (.inr 8) ∧ mEv d 193 [.ref 2, .int (xs (4 * q + 1))] m1 (fun r2 m2 => r2 = some (.int v) ∧ Lw (23, Lf (4 * q + 4) x5 x6, [], m2)))) : Lw (651, Lf (4 * q) x5 x6, [], m) := by
  refine l_w hc (dAt DW5 55 rfl) (Or.inl rfl) ⟨rfl, ?_⟩
  refine l_arg hc (dAt DW5 56 rfl) (dAt DW5 57 rfl) (dAt DW5 58 rfl) (dAt DW5 59 rfl) (dAt DW6 0 rfl) (j := 1) rfl hl hn (by omega) ?_
  rw [hxs]
  refine l_call hc (kind := 0) (cm := 69) (As := [.ref 1, .int (xs (4 * q + 1))]) (rest := []) (dAt DW6 1 rfl) (fun _ => rfl) rfl G69 (by decide) rfl (Nat.le_of_ble_eq_true rfl) (kok0 h1 (by decide) rfl) ?_
  refine k.imp (fun r m1 ⟨v, e, f0, fx, f2, k2⟩ => ?_)
  subst e
  refine l_w hc (dAt DW6 2 rfl) (Or.inl rfl) ⟨rfl, ?_⟩
  refine l_arg hc (dAt DW6 3 rfl) (dAt DW6 4 rfl) (dAt DW6 5 rfl) (dAt DW6 6 rfl) (dAt DW6 7 rfl) (j := 1) rfl f0 hn (by omega) ?_
  rw [fx]
  refine l_call hc (kind := 0) (cm := 193) (As := [.ref 2, .int (xs (4 * q + 1))]) (rest := [.int v]) (dAt DW6 8 rfl) (fun _ => rfl) rfl G193 (by decide) rfl (Nat.le_of_ble_eq_true rfl) (kok0 f2 (by decide) rfl) ?_
  refine k2.imp (fun r m2 ⟨e, k3⟩ => ?_)
  subst e
  refine l_w hc (dAt DW6 9 rfl) (Or.inl rfl) ⟨1061, rfl, by decide, fun _ => l_next hc k3, fun h => absurd rfl h⟩
theorem lc_17 (hc : lwC d Lw) (hl : m.1 0 = some (.inl (.int, n))) (hn : n ≤ 2048) (hq : 4 * q + 3 < n) (hxs : m.2.2.1 0 = xs) (h1 : m.1 1 = some (.inr 0))
    (k : mEv d 73 [.ref 1, .int (xs (4 * q + 1))] m (fun r m1 => ∃ v, r = some (.int v) ∧ m1.1 0 = some (.inl (.int, n)) ∧ m1.2.2.1 0 = xs ∧ m1.1 2 = some (.inr 8) ∧ mEv d 196 [.ref 2, .int (xs (4 * q + 1))] m1 (fun r2 m2 => r2 = some (.int v) ∧ Lw (23, Lf (4 * q + 4) x5 x6, [], m2)))) : Lw (676, Lf (4 * q) x5 x6, [], m) := by
  refine l_w hc (dAt DW6 12 rfl) (Or.inl rfl) ⟨rfl, ?_⟩
  refine l_arg hc (dAt DW6 13 rfl) (dAt DW6 14 rfl) (dAt DW6 15 rfl) (dAt DW6 16 rfl) (dAt DW6 17 rfl) (j := 1) rfl hl hn (by omega) ?_
  rw [hxs]
  refine l_call hc (kind := 0) (cm := 73) (As := [.ref 1, .int (xs (4 * q + 1))]) (rest := []) (dAt DW6 18 rfl) (fun _ => rfl) rfl G73 (by decide) rfl (Nat.le_of_ble_eq_true rfl) (kok0 h1 (by decide) rfl) ?_
  refine k.imp (fun r m1 ⟨v, e, f0, fx, f2, k2⟩ => ?_)
  subst e
  refine l_w hc (dAt DW6 19 rfl) (Or.inl rfl) ⟨rfl, ?_⟩
  refine l_arg hc (dAt DW6 20 rfl) (dAt DW6 21 rfl) (dAt DW6 22 rfl) (dAt DW6 23 rfl) (dAt DW6 24 rfl) (j := 1) rfl f0 hn (by omega) ?_
  rw [fx]
  refine l_call hc (kind := 0) (cm := 196) (As := [.ref 2, .int (xs (4 * q + 1))]) (rest := [.int v]) (dAt DW6 25 rfl) (fun _ => rfl) rfl G196 (by decide) rfl (Nat.le_of_ble_eq_true rfl) (kok0 f2 (by decide) rfl) ?_
  refine k2.imp (fun r m2 ⟨e, k3⟩ => ?_)
  subst e
  refine l_w hc (dAt DW6 26 rfl) (Or.inl rfl) ⟨1061, rfl, by decide, fun _ => l_next hc k3, fun h => absurd rfl h⟩
theorem lc_18 (hc : lwC d Lw) (hl : m.1 0 = some (.inl (.int, n))) (hn : n ≤ 2048) (hq : 4 * q + 3 < n) (hxs : m.2.2.1 0 = xs) (h1 : m.1 1 = some (.inr 0))
    (k : mEv d 75 [.ref 1, .int (xs (4 * q + 1))] m (fun r m1 => ∃ v, r = some (.int v) ∧ m1.1 0 = some (.inl (.int, n)) ∧ m1.2.2.1 0 = xs ∧ m1.1 2 = some (.inr 8) ∧ mEv d 197 [.ref 2, .int (xs (4 * q + 1))] m1 (fun r2 m2 => r2 = some (.int v) ∧ Lw (23, Lf (4 * q + 4) x5 x6, [], m2)))) : Lw (701, Lf (4 * q) x5 x6, [], m) := by
  refine l_w hc (dAt DW6 29 rfl) (Or.inl rfl) ⟨rfl, ?_⟩
  refine l_arg hc (dAt DW6 30 rfl) (dAt DW6 31 rfl) (dAt DW6 32 rfl) (dAt DW6 33 rfl) (dAt DW6 34 rfl) (j := 1) rfl hl hn (by omega) ?_
  rw [hxs]
  refine l_call hc (kind := 0) (cm := 75) (As := [.ref 1, .int (xs (4 * q + 1))]) (rest := []) (dAt DW6 35 rfl) (fun _ => rfl) rfl G75 (by decide) rfl (Nat.le_of_ble_eq_true rfl) (kok0 h1 (by decide) rfl) ?_
  refine k.imp (fun r m1 ⟨v, e, f0, fx, f2, k2⟩ => ?_)
  subst e
  refine l_w hc (dAt DW6 36 rfl) (Or.inl rfl) ⟨rfl, ?_⟩
  refine l_arg hc (dAt DW6 37 rfl) (dAt DW6 38 rfl) (dAt DW6 39 rfl) (dAt DW6 40 rfl) (dAt DW6 41 rfl) (j := 1) rfl f0 hn (by omega) ?_
  rw [fx]
  refine l_call hc (kind := 0) (cm := 197) (As := [.ref 2, .int (xs (4 * q + 1))]) (rest := [.int v]) (dAt DW6 42 rfl) (fun _ => rfl) rfl G197 (by decide) rfl (Nat.le_of_ble_eq_true rfl) (kok0 f2 (by decide) rfl) ?_
  refine k2.imp (fun r m2 ⟨e, k3⟩ => ?_)
  subst e
  refine l_w hc (dAt DW6 43 rfl) (Or.inl rfl) ⟨1061, rfl, by decide, fun _ => l_next hc k3, fun h => absurd rfl h⟩
theorem lc_19 (hc : lwC d Lw) (hl : m.1 0 = some (.inl (.int, n))) (hn : n ≤ 2048) (hq : 4 * q + 3 < n) (hxs : m.2.2.1 0 = xs) (h1 : m.1 1 = some (.inr 0))
    (k : mEv d 77 [.ref 1, .int (xs (4 * q + 1)), .int (xs (4 * q + 2)), .int (xs (4 * q + 3))] m (fun r m1 => ∃ v, r = some (.int v) ∧ m1.1 0 = some (.inl (.int, n)) ∧ m1.2.2.1 0 = xs ∧ m1.1 2 = some (.inr 8) ∧ mEv d 199 [.ref 2, .int (xs (4 * q + 1)), .int (xs (4 * q + 2)), .int (xs (4 * q + 3))] m1 (fun r2 m2 => r2 = some (.int v) ∧ Lw (23, Lf (4 * q + 4) x5 x6, [], m2)))) : Lw (726, Lf (4 * q) x5 x6, [], m) := by
  refine l_w hc (dAt DW6 46 rfl) (Or.inl rfl) ⟨rfl, ?_⟩
  refine l_arg hc (dAt DW6 47 rfl) (dAt DW6 48 rfl) (dAt DW6 49 rfl) (dAt DW6 50 rfl) (dAt DW6 51 rfl) (j := 1) rfl hl hn (by omega) ?_
  refine l_arg hc (dAt DW6 52 rfl) (dAt DW6 53 rfl) (dAt DW6 54 rfl) (dAt DW6 55 rfl) (dAt DW6 56 rfl) (j := 2) rfl hl hn (by omega) ?_
  refine l_arg hc (dAt DW6 57 rfl) (dAt DW6 58 rfl) (dAt DW6 59 rfl) (dAt DW7 0 rfl) (dAt DW7 1 rfl) (j := 3) rfl hl hn (by omega) ?_
  rw [hxs]
  refine l_call hc (kind := 0) (cm := 77) (As := [.ref 1, .int (xs (4 * q + 1)), .int (xs (4 * q + 2)), .int (xs (4 * q + 3))]) (rest := []) (dAt DW7 2 rfl) (fun _ => rfl) rfl G77 (by decide) rfl (Nat.le_of_ble_eq_true rfl) (kok0 h1 (by decide) rfl) ?_
  refine k.imp (fun r m1 ⟨v, e, f0, fx, f2, k2⟩ => ?_)
  subst e
  refine l_w hc (dAt DW7 3 rfl) (Or.inl rfl) ⟨rfl, ?_⟩
  refine l_arg hc (dAt DW7 4 rfl) (dAt DW7 5 rfl) (dAt DW7 6 rfl) (dAt DW7 7 rfl) (dAt DW7 8 rfl) (j := 1) rfl f0 hn (by omega) ?_
  refine l_arg hc (dAt DW7 9 rfl) (dAt DW7 10 rfl) (dAt DW7 11 rfl) (dAt DW7 12 rfl) (dAt DW7 13 rfl) (j := 2) rfl f0 hn (by omega) ?_
  refine l_arg hc (dAt DW7 14 rfl) (dAt DW7 15 rfl) (dAt DW7 16 rfl) (dAt DW7 17 rfl) (dAt DW7 18 rfl) (j := 3) rfl f0 hn (by omega) ?_
  rw [fx]
  refine l_call hc (kind := 0) (cm := 199) (As := [.ref 2, .int (xs (4 * q + 1)), .int (xs (4 * q + 2)), .int (xs (4 * q + 3))]) (rest := [.int v]) (dAt DW7 19 rfl) (fun _ => rfl) rfl G199 (by decide) rfl (Nat.le_of_ble_eq_true rfl) (kok0 f2 (by decide) rfl) ?_
  refine k2.imp (fun r m2 ⟨e, k3⟩ => ?_)
  subst e
  refine l_w hc (dAt DW7 20 rfl) (Or.inl rfl) ⟨1061, rfl, by decide, fun _ => l_next hc k3, fun h => absurd rfl h⟩
theorem lc_20 (hc : lwC d Lw) (hl : m.1 0 = some (.inl (.int, n))) (hn : n ≤ 2048) (hq : 4 * q + 3 < n) (hxs : m.2.2.1 0 = xs) (h1 : m.1 1 = some (.inr 0))
    (k : mEv d 94 [.ref 1, .int (xs (4 * q + 1))] m (fun r m1 => ∃ v, r = some (.int v) ∧ m1.1 0 = some (.inl (.int, n)) ∧ m1.2.2.1 0 = xs ∧ m1.1 2 = some (.inr 8) ∧ mEv d 210 [.ref 2, .int (xs (4 * q + 1))] m1 (fun r2 m2 => r2 = some (.int v) ∧ Lw (23, Lf (4 * q + 4) x5 x6, [], m2)))) : Lw (775, Lf (4 * q) x5 x6, [], m) := by
  refine l_w hc (dAt DW7 23 rfl) (Or.inl rfl) ⟨rfl, ?_⟩
  refine l_arg hc (dAt DW7 24 rfl) (dAt DW7 25 rfl) (dAt DW7 26 rfl) (dAt DW7 27 rfl) (dAt DW7 28 rfl) (j := 1) rfl hl hn (by omega) ?_
  rw [hxs]
  refine l_call hc (kind := 0) (cm := 94) (As := [.ref 1, .int (xs (4 * q + 1))]) (rest := []) (dAt DW7 29 rfl) (fun _ => rfl) rfl G94 (by decide) rfl (Nat.le_of_ble_eq_true rfl) (kok0 h1 (by decide) rfl) ?_
  refine k.imp (fun r m1 ⟨v, e, f0, fx, f2, k2⟩ => ?_)
  subst e
  refine l_w hc (dAt DW7 30 rfl) (Or.inl rfl) ⟨rfl, ?_⟩
  refine l_arg hc (dAt DW7 31 rfl) (dAt DW7 32 rfl) (dAt DW7 33 rfl) (dAt DW7 34 rfl) (dAt DW7 35 rfl) (j := 1) rfl f0 hn (by omega) ?_
  rw [fx]
  refine l_call hc (kind := 0) (cm := 210) (As := [.ref 2, .int (xs (4 * q + 1))]) (rest := [.int v]) (dAt DW7 36 rfl) (fun _ => rfl) rfl G210 (by decide) rfl (Nat.le_of_ble_eq_true rfl) (kok0 f2 (by decide) rfl) ?_
  refine k2.imp (fun r m2 ⟨e, k3⟩ => ?_)
  subst e
  refine l_w hc (dAt DW7 37 rfl) (Or.inl rfl) ⟨1061, rfl, by decide, fun _ => l_next hc k3, fun h => absurd rfl h⟩
theorem lc_21 (hc : lwC d Lw) (hl : m.1 0 = some (.inl (.int, n))) (hn : n ≤ 2048) (hq : 4 * q + 3 < n) (hxs : m.2.2.1 0 = xs) (h1 : m.1 1 = some (.inr 0))
    (k : mEv d 96 [.ref 1, .int (xs (4 * q + 1)), .int (xs (4 * q + 2))] m (fun r m1 => ∃ v, r = some (.int v) ∧ m1.1 0 = some (.inl (.int, n)) ∧ m1.2.2.1 0 = xs ∧ m1.1 2 = some (.inr 8) ∧ mEv d 211 [.ref 2, .int (xs (4 * q + 1)), .int (xs (4 * q + 2))] m1 (fun r2 m2 => r2 = some (.int v) ∧ Lw (23, Lf (4 * q + 4) x5 x6, [], m2)))) : Lw (800, Lf (4 * q) x5 x6, [], m) := by
  refine l_w hc (dAt DW7 40 rfl) (Or.inl rfl) ⟨rfl, ?_⟩
  refine l_arg hc (dAt DW7 41 rfl) (dAt DW7 42 rfl) (dAt DW7 43 rfl) (dAt DW7 44 rfl) (dAt DW7 45 rfl) (j := 1) rfl hl hn (by omega) ?_
  refine l_arg hc (dAt DW7 46 rfl) (dAt DW7 47 rfl) (dAt DW7 48 rfl) (dAt DW7 49 rfl) (dAt DW7 50 rfl) (j := 2) rfl hl hn (by omega) ?_
  rw [hxs]
  refine l_call hc (kind := 0) (cm := 96) (As := [.ref 1, .int (xs (4 * q + 1)), .int (xs (4 * q + 2))]) (rest := []) (dAt DW7 51 rfl) (fun _ => rfl) rfl G96 (by decide) rfl (Nat.le_of_ble_eq_true rfl) (kok0 h1 (by decide) rfl) ?_
  refine k.imp (fun r m1 ⟨v, e, f0, fx, f2, k2⟩ => ?_)
  subst e
  refine l_w hc (dAt DW7 52 rfl) (Or.inl rfl) ⟨rfl, ?_⟩
  refine l_arg hc (dAt DW7 53 rfl) (dAt DW7 54 rfl) (dAt DW7 55 rfl) (dAt DW7 56 rfl) (dAt DW7 57 rfl) (j := 1) rfl f0 hn (by omega) ?_
  refine l_arg hc (dAt DW7 58 rfl) (dAt DW7 59 rfl) (dAt DW8 0 rfl) (dAt DW8 1 rfl) (dAt DW8 2 rfl) (j := 2) rfl f0 hn (by omega) ?_
  rw [fx]
  refine l_call hc (kind := 0) (cm := 211) (As := [.ref 2, .int (xs (4 * q + 1)), .int (xs (4 * q + 2))]) (rest := [.int v]) (dAt DW8 3 rfl) (fun _ => rfl) rfl G211 (by decide) rfl (Nat.le_of_ble_eq_true rfl) (kok0 f2 (by decide) rfl) ?_
  refine k2.imp (fun r m2 ⟨e, k3⟩ => ?_)
  subst e
  refine l_w hc (dAt DW8 4 rfl) (Or.inl rfl) ⟨1061, rfl, by decide, fun _ => l_next hc k3, fun h => absurd rfl h⟩
theorem lc_22 (hc : lwC d Lw) (hl : m.1 0 = some (.inl (.int, n))) (hn : n ≤ 2048) (hq : 4 * q + 3 < n) (hxs : m.2.2.1 0 = xs) (h1 : m.1 1 = some (.inr 0))
    (k : mEv d 108 [.ref 1, .int (xs (4 * q + 1))] m (fun r m1 => ∃ v, r = some (.int v) ∧ m1.1 0 = some (.inl (.int, n)) ∧ m1.2.2.1 0 = xs ∧ m1.1 2 = some (.inr 8) ∧ mEv d 216 [.ref 2, .int (xs (4 * q + 1))] m1 (fun r2 m2 => r2 = some (.int v) ∧ Lw (23, Lf (4 * q + 4) x5 x6, [], m2)))) : Lw (837, Lf (4 * q) x5 x6, [], m) := by
  refine l_w hc (dAt DW8 7 rfl) (Or.inl rfl) ⟨rfl, ?_⟩
  refine l_arg hc (dAt DW8 8 rfl) (dAt DW8 9 rfl) (dAt DW8 10 rfl) (dAt DW8 11 rfl) (dAt DW8 12 rfl) (j := 1) rfl hl hn (by omega) ?_
  rw [hxs]
  refine l_call hc (kind := 0) (cm := 108) (As := [.ref 1, .int (xs (4 * q + 1))]) (rest := []) (dAt DW8 13 rfl) (fun _ => rfl) rfl G108 (by decide) rfl (Nat.le_of_ble_eq_true rfl) (kok0 h1 (by decide) rfl) ?_
  refine k.imp (fun r m1 ⟨v, e, f0, fx, f2, k2⟩ => ?_)
  subst e
  refine l_w hc (dAt DW8 14 rfl) (Or.inl rfl) ⟨rfl, ?_⟩
  refine l_arg hc (dAt DW8 15 rfl) (dAt DW8 16 rfl) (dAt DW8 17 rfl) (dAt DW8 18 rfl) (dAt DW8 19 rfl) (j := 1) rfl f0 hn (by omega) ?_
  rw [fx]
  refine l_call hc (kind := 0) (cm := 216) (As := [.ref 2, .int (xs (4 * q + 1))]) (rest := [.int v]) (dAt DW8 20 rfl) (fun _ => rfl) rfl G216 (by decide) rfl (Nat.le_of_ble_eq_true rfl) (kok0 f2 (by decide) rfl) ?_
  refine k2.imp (fun r m2 ⟨e, k3⟩ => ?_)
  subst e
  refine l_w hc (dAt DW8 21 rfl) (Or.inl rfl) ⟨1061, rfl, by decide, fun _ => l_next hc k3, fun h => absurd rfl h⟩
theorem lc_23 (hc : lwC d Lw) (hl : m.1 0 = some (.inl (.int, n))) (hn : n ≤ 2048) (hq : 4 * q + 3 < n) (hxs : m.2.2.1 0 = xs) (h1 : m.1 1 = some (.inr 0))
    (k : mEv d 110 [.ref 1] m (fun r m1 => ∃ v, r = some (.int v) ∧ m1.1 0 = some (.inl (.int, n)) ∧ m1.2.2.1 0 = xs ∧ m1.1 2 = some (.inr 8) ∧ mEv d 219 [.ref 2] m1 (fun r2 m2 => r2 = some (.int v) ∧ Lw (23, Lf (4 * q + 4) x5 x6, [], m2)))) : Lw (862, Lf (4 * q) x5 x6, [], m) := by
  refine l_w hc (dAt DW8 24 rfl) (Or.inl rfl) ⟨rfl, ?_⟩
  refine l_call hc (kind := 0) (cm := 110) (As := [.ref 1]) (rest := []) (dAt DW8 25 rfl) (fun _ => rfl) rfl G110 (by decide) rfl (Nat.le_of_ble_eq_true rfl) (kok0 h1 (by decide) rfl) ?_
  refine k.imp (fun r m1 ⟨v, e, f0, fx, f2, k2⟩ => ?_)
  subst e
  refine l_w hc (dAt DW8 26 rfl) (Or.inl rfl) ⟨rfl, ?_⟩
  refine l_call hc (kind := 0) (cm := 219) (As := [.ref 2]) (rest := [.int v]) (dAt DW8 27 rfl) (fun _ => rfl) rfl G219 (by decide) rfl (Nat.le_of_ble_eq_true rfl) (kok0 f2 (by decide) rfl) ?_
  refine k2.imp (fun r m2 ⟨e, k3⟩ => ?_)
  subst e
  refine l_w hc (dAt DW8 28 rfl) (Or.inl rfl) ⟨1061, rfl, by decide, fun _ => l_next hc k3, fun h => absurd rfl h⟩
theorem lc_24 (hc : lwC d Lw) (hl : m.1 0 = some (.inl (.int, n))) (hn : n ≤ 2048) (hq : 4 * q + 3 < n) (hxs : m.2.2.1 0 = xs) (h1 : m.1 1 = some (.inr 0))
    (k : mEv d 117 [.ref 1] m (fun r m1 => ∃ v, r = some (.int v) ∧ m1.1 0 = some (.inl (.int, n)) ∧ m1.2.2.1 0 = xs ∧ m1.1 2 = some (.inr 8) ∧ mEv d 218 [.ref 2] m1 (fun r2 m2 => r2 = some (.int v) ∧ Lw (23, Lf (4 * q + 4) x5 x6, [], m2)))) : Lw (875, Lf (4 * q) x5 x6, [], m) := by
  refine l_w hc (dAt DW8 31 rfl) (Or.inl rfl) ⟨rfl, ?_⟩
  refine l_call hc (kind := 0) (cm := 117) (As := [.ref 1]) (rest := []) (dAt DW8 32 rfl) (fun _ => rfl) rfl G117 (by decide) rfl (Nat.le_of_ble_eq_true rfl) (kok0 h1 (by decide) rfl) ?_
  refine k.imp (fun r m1 ⟨v, e, f0, fx, f2, k2⟩ => ?_)
  subst e
  refine l_w hc (dAt DW8 33 rfl) (Or.inl rfl) ⟨rfl, ?_⟩
  refine l_call hc (kind := 0) (cm := 218) (As := [.ref 2]) (rest := [.int v]) (dAt DW8 34 rfl) (fun _ => rfl) rfl G218 (by decide) rfl (Nat.le_of_ble_eq_true rfl) (kok0 f2 (by decide) rfl) ?_
  refine k2.imp (fun r m2 ⟨e, k3⟩ => ?_)
  subst e
  refine l_w hc (dAt DW8 35 rfl) (Or.inl rfl) ⟨1061, rfl, by decide, fun _ => l_next hc k3, fun h => absurd rfl h⟩
theorem lc_25 (hc : lwC d Lw) (hl : m.1 0 = some (.inl (.int, n))) (hn : n ≤ 2048) (hq : 4 * q + 3 < n) (hxs : m.2.2.1 0 = xs) (h1 : m.1 1 = some (.inr 0))
    (k : mEv d 120 [.ref 1, .int (xs (4 * q + 1)), .int (xs (4 * q + 2))] m (fun r m1 => ∃ v, r = some (.int v) ∧ m1.1 0 = some (.inl (.int, n)) ∧ m1.2.2.1 0 = xs ∧ m1.1 2 = some (.inr 8) ∧ mEv d 223 [.ref 2, .int (xs (4 * q + 1)), .int (xs (4 * q + 2))] m1 (fun r2 m2 => r2 = some (.int v) ∧ Lw (23, Lf (4 * q + 4) x5 x6, [], m2)))) : Lw (888, Lf (4 * q) x5 x6, [], m) := by
  refine l_w hc (dAt DW8 38 rfl) (Or.inl rfl) ⟨rfl, ?_⟩
  refine l_arg hc (dAt DW8 39 rfl) (dAt DW8 40 rfl) (dAt DW8 41 rfl) (dAt DW8 42 rfl) (dAt DW8 43 rfl) (j := 1) rfl hl hn (by omega) ?_
  refine l_arg hc (dAt DW8 44 rfl) (dAt DW8 45 rfl) (dAt DW8 46 rfl) (dAt DW8 47 rfl) (dAt DW8 48 rfl) (j := 2) rfl hl hn (by omega) ?_
  rw [hxs]
  refine l_call hc (kind := 0) (cm := 120) (As := [.ref 1, .int (xs (4 * q + 1)), .int (xs (4 * q + 2))]) (rest := []) (dAt DW8 49 rfl) (fun _ => rfl) rfl G120 (by decide) rfl (Nat.le_of_ble_eq_true rfl) (kok0 h1 (by decide) rfl) ?_
  refine k.imp (fun r m1 ⟨v, e, f0, fx, f2, k2⟩ => ?_)
  subst e
  refine l_w hc (dAt DW8 50 rfl) (Or.inl rfl) ⟨rfl, ?_⟩
  refine l_arg hc (dAt DW8 51 rfl) (dAt DW8 52 rfl) (dAt DW8 53 rfl) (dAt DW8 54 rfl) (dAt DW8 55 rfl) (j := 1) rfl f0 hn (by omega) ?_
  refine l_arg hc (dAt DW8 56 rfl) (dAt DW8 57 rfl) (dAt DW8 58 rfl) (dAt DW8 59 rfl) (dAt DW9 0 rfl) (j := 2) rfl f0 hn (by omega) ?_
  rw [fx]
  refine l_call hc (kind := 0) (cm := 223) (As := [.ref 2, .int (xs (4 * q + 1)), .int (xs (4 * q + 2))]) (rest := [.int v]) (dAt DW9 1 rfl) (fun _ => rfl) rfl G223 (by decide) rfl (Nat.le_of_ble_eq_true rfl) (kok0 f2 (by decide) rfl) ?_
  refine k2.imp (fun r m2 ⟨e, k3⟩ => ?_)
  subst e
  refine l_w hc (dAt DW9 2 rfl) (Or.inl rfl) ⟨1061, rfl, by decide, fun _ => l_next hc k3, fun h => absurd rfl h⟩
theorem lc_26 (hc : lwC d Lw) (hl : m.1 0 = some (.inl (.int, n))) (hn : n ≤ 2048) (hq : 4 * q + 3 < n) (hxs : m.2.2.1 0 = xs) (h1 : m.1 1 = some (.inr 0))
    (k : mEv d 141 [.ref 1, .int (xs (4 * q + 1)), .int (xs (4 * q + 2))] m (fun r m1 => ∃ v, r = some (.int v) ∧ m1.1 0 = some (.inl (.int, n)) ∧ m1.2.2.1 0 = xs ∧ m1.1 2 = some (.inr 8) ∧ mEv d 237 [.ref 2, .int (xs (4 * q + 1)), .int (xs (4 * q + 2))] m1 (fun r2 m2 => r2 = some (.int v) ∧ Lw (23, Lf (4 * q + 4) x5 x6, [], m2)))) : Lw (925, Lf (4 * q) x5 x6, [], m) := by
  refine l_w hc (dAt DW9 5 rfl) (Or.inl rfl) ⟨rfl, ?_⟩
  refine l_arg hc (dAt DW9 6 rfl) (dAt DW9 7 rfl) (dAt DW9 8 rfl) (dAt DW9 9 rfl) (dAt DW9 10 rfl) (j := 1) rfl hl hn (by omega) ?_
  refine l_arg hc (dAt DW9 11 rfl) (dAt DW9 12 rfl) (dAt DW9 13 rfl) (dAt DW9 14 rfl) (dAt DW9 15 rfl) (j := 2) rfl hl hn (by omega) ?_
  rw [hxs]
  refine l_call hc (kind := 0) (cm := 141) (As := [.ref 1, .int (xs (4 * q + 1)), .int (xs (4 * q + 2))]) (rest := []) (dAt DW9 16 rfl) (fun _ => rfl) rfl G141 (by decide) rfl (Nat.le_of_ble_eq_true rfl) (kok0 h1 (by decide) rfl) ?_
  refine k.imp (fun r m1 ⟨v, e, f0, fx, f2, k2⟩ => ?_)
  subst e
  refine l_w hc (dAt DW9 17 rfl) (Or.inl rfl) ⟨rfl, ?_⟩
  refine l_arg hc (dAt DW9 18 rfl) (dAt DW9 19 rfl) (dAt DW9 20 rfl) (dAt DW9 21 rfl) (dAt DW9 22 rfl) (j := 1) rfl f0 hn (by omega) ?_
  refine l_arg hc (dAt DW9 23 rfl) (dAt DW9 24 rfl) (dAt DW9 25 rfl) (dAt DW9 26 rfl) (dAt DW9 27 rfl) (j := 2) rfl f0 hn (by omega) ?_
  rw [fx]
  refine l_call hc (kind := 0) (cm := 237) (As := [.ref 2, .int (xs (4 * q + 1)), .int (xs (4 * q + 2))]) (rest := [.int v]) (dAt DW9 28 rfl) (fun _ => rfl) rfl G237 (by decide) rfl (Nat.le_of_ble_eq_true rfl) (kok0 f2 (by decide) rfl) ?_
  refine k2.imp (fun r m2 ⟨e, k3⟩ => ?_)
  subst e
  refine l_w hc (dAt DW9 29 rfl) (Or.inl rfl) ⟨1061, rfl, by decide, fun _ => l_next hc k3, fun h => absurd rfl h⟩
theorem lc_27 (hc : lwC d Lw) (hl : m.1 0 = some (.inl (.int, n))) (hn : n ≤ 2048) (hq : 4 * q + 3 < n) (hxs : m.2.2.1 0 = xs) (h1 : m.1 1 = some (.inr 0))
    (k : mEv d 143 [.ref 1, .int (xs (4 * q + 1)), .int (xs (4 * q + 2))] m (fun r m1 => ∃ v, r = some (.int v) ∧ m1.1 0 = some (.inl (.int, n)) ∧ m1.2.2.1 0 = xs ∧ m1.1 2 = some (.inr 8) ∧ mEv d 238 [.ref 2, .int (xs (4 * q + 1)), .int (xs (4 * q + 2))] m1 (fun r2 m2 => r2 = some (.int v) ∧ Lw (23, Lf (4 * q + 4) x5 x6, [], m2)))) : Lw (962, Lf (4 * q) x5 x6, [], m) := by
  refine l_w hc (dAt DW9 32 rfl) (Or.inl rfl) ⟨rfl, ?_⟩
  refine l_arg hc (dAt DW9 33 rfl) (dAt DW9 34 rfl) (dAt DW9 35 rfl) (dAt DW9 36 rfl) (dAt DW9 37 rfl) (j := 1) rfl hl hn (by omega) ?_
  refine l_arg hc (dAt DW9 38 rfl) (dAt DW9 39 rfl) (dAt DW9 40 rfl) (dAt DW9 41 rfl) (dAt DW9 42 rfl) (j := 2) rfl hl hn (by omega) ?_
  rw [hxs]
  refine l_call hc (kind := 0) (cm := 143) (As := [.ref 1, .int (xs (4 * q + 1)), .int (xs (4 * q + 2))]) (rest := []) (dAt DW9 43 rfl) (fun _ => rfl) rfl G143 (by decide) rfl (Nat.le_of_ble_eq_true rfl) (kok0 h1 (by decide) rfl) ?_
  refine k.imp (fun r m1 ⟨v, e, f0, fx, f2, k2⟩ => ?_)
  subst e
  refine l_w hc (dAt DW9 44 rfl) (Or.inl rfl) ⟨rfl, ?_⟩
  refine l_arg hc (dAt DW9 45 rfl) (dAt DW9 46 rfl) (dAt DW9 47 rfl) (dAt DW9 48 rfl) (dAt DW9 49 rfl) (j := 1) rfl f0 hn (by omega) ?_
  refine l_arg hc (dAt DW9 50 rfl) (dAt DW9 51 rfl) (dAt DW9 52 rfl) (dAt DW9 53 rfl) (dAt DW9 54 rfl) (j := 2) rfl f0 hn (by omega) ?_
  rw [fx]
  refine l_call hc (kind := 0) (cm := 238) (As := [.ref 2, .int (xs (4 * q + 1)), .int (xs (4 * q + 2))]) (rest := [.int v]) (dAt DW9 55 rfl) (fun _ => rfl) rfl G238 (by decide) rfl (Nat.le_of_ble_eq_true rfl) (kok0 f2 (by decide) rfl) ?_
  refine k2.imp (fun r m2 ⟨e, k3⟩ => ?_)
  subst e
  refine l_w hc (dAt DW9 56 rfl) (Or.inl rfl) ⟨1061, rfl, by decide, fun _ => l_next hc k3, fun h => absurd rfl h⟩
theorem lc_28 (hc : lwC d Lw) (hl : m.1 0 = some (.inl (.int, n))) (hn : n ≤ 2048) (hq : 4 * q + 3 < n) (hxs : m.2.2.1 0 = xs) (h1 : m.1 1 = some (.inr 0))
    (k : mEv d 144 [.ref 1, .int (xs (4 * q + 1)), .int (xs (4 * q + 2))] m (fun r m1 => ∃ v, r = some (.int v) ∧ m1.1 0 = some (.inl (.int, n)) ∧ m1.2.2.1 0 = xs ∧ m1.1 2 = some (.inr 8) ∧ mEv d 239 [.ref 2, .int (xs (4 * q + 1)), .int (xs (4 * q + 2))] m1 (fun r2 m2 => r2 = some (.int v) ∧ Lw (23, Lf (4 * q + 4) x5 x6, [], m2)))) : Lw (999, Lf (4 * q) x5 x6, [], m) := by
  refine l_w hc (dAt DW9 59 rfl) (Or.inl rfl) ⟨rfl, ?_⟩
  refine l_arg hc (dAt DW10 0 rfl) (dAt DW10 1 rfl) (dAt DW10 2 rfl) (dAt DW10 3 rfl) (dAt DW10 4 rfl) (j := 1) rfl hl hn (by omega) ?_
  refine l_arg hc (dAt DW10 5 rfl) (dAt DW10 6 rfl) (dAt DW10 7 rfl) (dAt DW10 8 rfl) (dAt DW10 9 rfl) (j := 2) rfl hl hn (by omega) ?_
  rw [hxs]
  refine l_call hc (kind := 0) (cm := 144) (As := [.ref 1, .int (xs (4 * q + 1)), .int (xs (4 * q + 2))]) (rest := []) (dAt DW10 10 rfl) (fun _ => rfl) rfl G144 (by decide) rfl (Nat.le_of_ble_eq_true rfl) (kok0 h1 (by decide) rfl) ?_
  refine k.imp (fun r m1 ⟨v, e, f0, fx, f2, k2⟩ => ?_)
  subst e
  refine l_w hc (dAt DW10 11 rfl) (Or.inl rfl) ⟨rfl, ?_⟩
  refine l_arg hc (dAt DW10 12 rfl) (dAt DW10 13 rfl) (dAt DW10 14 rfl) (dAt DW10 15 rfl) (dAt DW10 16 rfl) (j := 1) rfl f0 hn (by omega) ?_
  refine l_arg hc (dAt DW10 17 rfl) (dAt DW10 18 rfl) (dAt DW10 19 rfl) (dAt DW10 20 rfl) (dAt DW10 21 rfl) (j := 2) rfl f0 hn (by omega) ?_
  rw [fx]
  refine l_call hc (kind := 0) (cm := 239) (As := [.ref 2, .int (xs (4 * q + 1)), .int (xs (4 * q + 2))]) (rest := [.int v]) (dAt DW10 22 rfl) (fun _ => rfl) rfl G239 (by decide) rfl (Nat.le_of_ble_eq_true rfl) (kok0 f2 (by decide) rfl) ?_
  refine k2.imp (fun r m2 ⟨e, k3⟩ => ?_)
  subst e
  refine l_w hc (dAt DW10 23 rfl) (Or.inl rfl) ⟨1061, rfl, by decide, fun _ => l_next hc k3, fun h => absurd rfl h⟩
theorem lc_29 (hc : lwC d Lw) (hl : m.1 0 = some (.inl (.int, n))) (hn : n ≤ 2048) (hq : 4 * q + 3 < n) (hxs : m.2.2.1 0 = xs) (h1 : m.1 1 = some (.inr 0))
    (k : mEv d 145 [.ref 1, .int (xs (4 * q + 1))] m (fun r m1 => ∃ v, r = some (.int v) ∧ m1.1 0 = some (.inl (.int, n)) ∧ m1.2.2.1 0 = xs ∧ m1.1 2 = some (.inr 8) ∧ mEv d 240 [.ref 2, .int (xs (4 * q + 1))] m1 (fun r2 m2 => r2 = some (.int v) ∧ Lw (23, Lf (4 * q + 4) x5 x6, [], m2)))) : Lw (1036, Lf (4 * q) x5 x6, [], m) := by
  refine l_w hc (dAt DW10 26 rfl) (Or.inl rfl) ⟨rfl, ?_⟩
  refine l_arg hc (dAt DW10 27 rfl) (dAt DW10 28 rfl) (dAt DW10 29 rfl) (dAt DW10 30 rfl) (dAt DW10 31 rfl) (j := 1) rfl hl hn (by omega) ?_
  rw [hxs]
  refine l_call hc (kind := 0) (cm := 145) (As := [.ref 1, .int (xs (4 * q + 1))]) (rest := []) (dAt DW10 32 rfl) (fun _ => rfl) rfl G145 (by decide) rfl (Nat.le_of_ble_eq_true rfl) (kok0 h1 (by decide) rfl) ?_
  refine k.imp (fun r m1 ⟨v, e, f0, fx, f2, k2⟩ => ?_)
  subst e
  refine l_w hc (dAt DW10 33 rfl) (Or.inl rfl) ⟨rfl, ?_⟩
  refine l_arg hc (dAt DW10 34 rfl) (dAt DW10 35 rfl) (dAt DW10 36 rfl) (dAt DW10 37 rfl) (dAt DW10 38 rfl) (j := 1) rfl f0 hn (by omega) ?_
  rw [fx]
  refine l_call hc (kind := 0) (cm := 240) (As := [.ref 2, .int (xs (4 * q + 1))]) (rest := [.int v]) (dAt DW10 39 rfl) (fun _ => rfl) rfl G240 (by decide) rfl (Nat.le_of_ble_eq_true rfl) (kok0 f2 (by decide) rfl) ?_
  refine k2.imp (fun r m2 ⟨e, k3⟩ => ?_)
  subst e
  refine l_w hc (dAt DW10 40 rfl) (Or.inl rfl) ⟨1061, rfl, by decide, fun _ => l_next hc k3, fun h => absurd rfl h⟩
end LCASE
